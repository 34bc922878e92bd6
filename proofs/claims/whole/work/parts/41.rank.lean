/-! ranks: by a strict order they are all the numbers below N, each once -/
abbrev QQ := mx_O → mx_M → Prop
abbrev BB := Nat → Nat → Nat → Bool
theorem cnt_mono {p q : Nat → Bool} : ∀ (k i : Nat), (∀ j, i ≤ j → j < i + k → p j = true → q j = true) → cnt p i k ≤ cnt q i k
  | 0, i, _ => Nat.le_refl _
  | k + 1, i, h => by
    have ih := cnt_mono k (i + 1) (fun j h1 h2 => h j (by omega) (by omega))
    rw [cnt, cnt]
    by_cases hp : p i = true
    · rw [if_pos hp, if_pos (h i (Nat.le_refl _) (by omega) hp)]; omega
    · rw [if_neg hp]; split <;> omega
theorem cnt_lt {p q : Nat → Bool} {z : Nat} (h1 : p z = false) (h2 : q z = true) : ∀ (k i : Nat), i ≤ z → z < i + k → (∀ j, i ≤ j → j < i + k → p j = true → q j = true) → cnt p i k < cnt q i k
  | 0, i, h3, h4, _ => by omega
  | k + 1, i, h3, h4, h => by
    rw [cnt, cnt]
    by_cases e : i = z
    · have := cnt_mono k (i + 1) (fun j h1 h2 => h j (by omega) (by omega))
      rw [e] at this ⊢
      rw [if_neg (by rw [h1]; decide), if_pos h2]; omega
    · have ih := cnt_lt h1 h2 k (i + 1) (by omega) (by omega) (fun j h1 h2 => h j (by omega) (by omega))
      by_cases hp : p i = true
      · rw [if_pos hp, if_pos (h i (Nat.le_refl _) (by omega) hp)]; omega
      · rw [if_neg hp]; split <;> omega
theorem cnt_all : ∀ (k i : Nat), cnt (fun _ => true) i k = k
  | 0, i => rfl
  | k + 1, i => by rw [cnt_yes rfl, cnt_all k (i + 1)]
theorem cnt_none : ∀ (k i : Nat), cnt (fun _ => false) i k = 0
  | 0, i => rfl
  | k + 1, i => by rw [cnt_no (by decide), cnt_none k (i + 1)]
theorem cnt_pos {p : Nat → Bool} {k i z : Nat} (h : p z = true) (h1 : i ≤ z) (h2 : z < i + k) : 0 < cnt p i k := by
  have := cnt_lt (p := fun _ => false) (q := p) (z := z) rfl h k i h1 h2 (fun j _ _ z => by cases z)
  omega
theorem rnk_lt {N x : Nat} {B : Nat → Nat → Bool} (S : sto N B) (hx : x < N) : rnk N B x < N := by
  have := cnt_lt (p := fun z => B z x) (q := fun _ => true) (z := x) (S.1 x hx) rfl N 0 (Nat.zero_le _) (by omega) (fun _ _ _ _ => rfl)
  rw [cnt_all] at this
  exact this
theorem sto_not {N x y : Nat} {B : Nat → Nat → Bool} (S : sto N B) (hx : x < N) (hy : y < N) (h : B x y = true) : B y x = false := by
  cases g : B y x
  · rfl
  · have := S.2.1 x y x hx hy hx h g
    rw [S.1 x hx] at this
    cases this
theorem rnk_up {N x y : Nat} {B : Nat → Nat → Bool} (S : sto N B) (hx : x < N) (hy : y < N) (h : B x y = true) : rnk N B x < rnk N B y :=
  cnt_lt (p := fun z => B z x) (q := fun z => B z y) (z := x) (S.1 x hx) h N 0 (Nat.zero_le _) (by omega) (fun j _ h2 h3 => S.2.1 j x y (by omega) hx hy h3 h)
theorem rnk_iff {N x y : Nat} {B : Nat → Nat → Bool} (S : sto N B) (hx : x < N) (hy : y < N) : B x y = decide (rnk N B x < rnk N B y) := by
  cases h : B x y
  · symm
    apply decide_eq_false
    by_cases e : x = y
    · rw [e]; omega
    · rcases S.2.2 x y hx hy e with g | g
      · rw [h] at g; cases g
      · have := rnk_up S hy hx g; omega
  · exact (decide_eq_true (rnk_up S hx hy h)).symm
theorem rnk_inj {N x y : Nat} {B : Nat → Nat → Bool} (S : sto N B) (hx : x < N) (hy : y < N) (h : rnk N B x = rnk N B y) : x = y := by
  by_cases e : x = y
  · exact e
  · rcases S.2.2 x y hx hy e with g | g
    · have := rnk_up S hx hy g; omega
    · have := rnk_up S hy hx g; omega
theorem inj_sur : ∀ (N : Nat) (g : Nat → Nat), (∀ x, x < N → g x < N) → (∀ x y, x < N → y < N → g x = g y → x = y) → ∀ r, r < N → ∃ x, x < N ∧ g x = r
  | 0, g, _, _, r, hr => by omega
  | N + 1, g, h1, h2, r, hr => by
    have hv := h1 N (by omega)
    have ih := inj_sur N (fun x => if g x = N then g N else g x) (fun x hx => by
      show (if g x = N then g N else g x) < N
      have a1 := h1 x (by omega)
      by_cases e : g x = N
      · rw [if_pos e]
        by_cases e2 : g N = N
        · have := h2 x N (by omega) (by omega) (by omega); omega
        · omega
      · rw [if_neg e]; omega) (fun x y hx hy e => by
      have a1 := h2 x y (by omega) (by omega)
      have a2 := h2 x N (by omega) (by omega)
      have a3 := h2 y N (by omega) (by omega)
      by_cases e1 : g x = N
      · rw [if_pos e1] at e
        by_cases e2 : g y = N
        · exact a1 (by omega)
        · rw [if_neg e2] at e; have := a3 e.symm; omega
      · rw [if_neg e1] at e
        by_cases e2 : g y = N
        · rw [if_pos e2] at e; have := a2 e; omega
        · rw [if_neg e2] at e; exact a1 e)
    by_cases e1 : r = g N
    · exact ⟨N, by omega, e1.symm⟩
    · by_cases e2 : r = N
      · obtain ⟨x, hx, e⟩ := ih (g N) (by omega)
        by_cases e3 : g x = N
        · exact ⟨x, by omega, by omega⟩
        · rw [if_neg e3] at e; have := h2 x N (by omega) (by omega) e; omega
      · obtain ⟨x, hx, e⟩ := ih r (by omega)
        by_cases e3 : g x = N
        · rw [if_pos e3] at e; omega
        · rw [if_neg e3] at e; exact ⟨x, by omega, e⟩
theorem rnk_sur {N r : Nat} {B : Nat → Nat → Bool} (S : sto N B) (hr : r < N) : ∃ x, x < N ∧ rnk N B x = r :=
  inj_sur N (rnk N B) (fun _ hx => rnk_lt S hx) (fun _ _ hx hy e => rnk_inj S hx hy e) r hr
/-- the card of a rank -/
def crd (N : Nat) (B : Nat → Nat → Bool) (r : Nat) : Nat := fnd (fun x => decide (rnk N B x = r)) 0 N
theorem crd_lt {N r : Nat} {B : Nat → Nat → Bool} (S : sto N B) (hr : r < N) : crd N B r < N := by
  obtain ⟨x, hx, e⟩ := rnk_sur S hr
  by_cases h : crd N B r < N
  · exact h
  · have := fnd_not (fun x => decide (rnk N B x = r)) 0 N x (Nat.zero_le _) (by unfold crd at h; omega)
    rw [decide_eq_true e] at this
    cases this
theorem crd_rnk {N r : Nat} {B : Nat → Nat → Bool} (S : sto N B) (hr : r < N) : rnk N B (crd N B r) = r := by
  have := fnd_so (fun x => decide (rnk N B x = r)) 0 N (by have := crd_lt S hr; unfold crd at this; omega)
  exact of_decide_eq_true this
theorem crd_eq {N r x : Nat} {B : Nat → Nat → Bool} (S : sto N B) (hx : x < N) (e : rnk N B x = r) : crd N B r = x := by
  have hr : r < N := by rw [← e]; exact rnk_lt S hx
  exact rnk_inj S (crd_lt S hr) hx (by rw [crd_rnk S hr, e])
/-! the reference's ranks -/
theorem q_rank_l {d n N K o x : Nat} {f : Nat → Nat} {Bs : BB} {M0 : mx_M} {Q : QQ} (ho : o < K) (hx : x < N) (hq : ∀ M1, wM M1 n N K f Bs → lip mQ M0 M1 → Q (.inl (some (.int (w (rnk N (Bs o) x))))) M1) :
    ∀ (k i s : Nat) (M : mx_M), wM M n N K f Bs → lip mQ M0 M → i + k = N → s + cnt (fun z => Bs o z x) i k = rnk N (Bs o) x → mx_W m_X11_rankOf (d + 4 + 1) 5 [.ref 58, .int (w o), .int (w x), .int (w s), .int (w i)] [] M Q
  | 0, i, s, M, W, L, hi, e => by
    have hb := W.2.1.2.1
    refine x_X11_rankOf_5 W.1 _ _ _ _ ⟨fun _ => ?_, fun h => absurd ?_ h⟩
    · have := hq M W L
      rw [← e] at this
      exact this
    · rw [W.2.1.1.1, w_le (by omega) (by omega)]; omega
  | k + 1, i, s, M, W, L, hi, e => by
    have hb := W.2.1.2.1
    refine x_X11_rankOf_5 W.1 _ _ _ _ ⟨fun h => ?_, fun _ => q_bef W ho (by omega) hx (fun M1 W1 L1 => ⟨L1.1.1, L1.1.2.1, _, rfl, fun g => ?_, fun g => ?_⟩)⟩
    · rw [W.2.1.1.1, w_le (by omega) (by omega)] at h; omega
    · rw [cnt_no (by simp [g])] at e
      rw [w_add1, Int32.add_zero]
      exact q_rank_l ho hx hq k (i + 1) s M1 W1 (lip_trans L L1) (by omega) e
    · rw [cnt_yes (by simp [g])] at e
      rw [w_add1, w_add1]
      exact q_rank_l ho hx hq k (i + 1) (s + 1) M1 W1 (lip_trans L L1) (by omega) (by omega)
theorem q_rank {d n N K o x : Nat} {f : Nat → Nat} {Bs : BB} {M : mx_M} {Q : QQ} (W : wM M n N K f Bs) (ho : o < K) (hx : x < N) (hq : ∀ M1, wM M1 n N K f Bs → lip mQ M M1 → Q (.inl (some (.int (w (rnk N (Bs o) x))))) M1) : mx_W m_X11_rankOf (d + 4 + 1) 0 [.ref 58, .int (w o), .int (w x), .retAddr 0, .retAddr 0] [] M Q :=
  x_X11_rankOf_0 W.1 _ _ (q_rank_l ho hx hq N 0 0 M W (lip_refl _ _) (Nat.zero_add N) (Nat.zero_add _))
theorem q_card_l {d n N K o r : Nat} {f : Nat → Nat} {Bs : BB} {M0 : mx_M} {Q : QQ} (S : sto N (Bs o)) (ho : o < K) (hr : r < N) (hq : ∀ M1, wM M1 n N K f Bs → lip mQ M0 M1 → Q (.inl (some (.int (w (crd N (Bs o) r))))) M1) :
    ∀ (k i : Nat) (M : mx_M), wM M n N K f Bs → lip mQ M0 M → i + k = N → fnd (fun x => decide (rnk N (Bs o) x = r)) i k = crd N (Bs o) r → mx_W m_X11_cardOf (d + 4 + 1 + 1) 2 [.ref 58, .int (w o), .int (w r), .int (w i)] [] M Q
  | 0, i, M, W, L, hi, e => by
    have := crd_lt S hr
    unfold fnd at e
    omega
  | k + 1, i, M, W, L, hi, e => by
    have hb := W.2.1.2.1
    have hl := rnk_lt S (show i < N by omega)
    refine x_X11_cardOf_2 W.1 _ _ _ (q_rank W ho (by omega) (fun M1 W1 L1 => ⟨L1.1.1, L1.1.2.1, _, rfl, fun g => ?_, fun g => ?_⟩))
    · rw [w_inj (by omega) (by omega)] at g
      rw [fnd_stop (by simp [g])] at e
      rw [e]
      exact hq M1 W1 (lip_trans L L1)
    · rw [w_inj (by omega) (by omega)] at g
      rw [fnd_next (by simp [g])] at e
      rw [w_add1]
      exact q_card_l S ho hr hq k (i + 1) M1 W1 (lip_trans L L1) (by omega) e
theorem q_card {d n N K o r : Nat} {f : Nat → Nat} {Bs : BB} {M : mx_M} {Q : QQ} (W : wM M n N K f Bs) (S : sto N (Bs o)) (ho : o < K) (hr : r < N) (hq : ∀ M1, wM M1 n N K f Bs → lip mQ M M1 → Q (.inl (some (.int (w (crd N (Bs o) r))))) M1) : mx_W m_X11_cardOf (d + 4 + 1 + 1) 0 [.ref 58, .int (w o), .int (w r), .retAddr 0] [] M Q :=
  x_X11_cardOf_0 W.1 _ _ (q_card_l S ho hr hq N 0 M W (lip_refl _ _) (Nat.zero_add N) rfl)
/-! the class's -/
theorem c_rank {d t n N K o x : Nat} {f : Nat → Nat} {Bs : BB} {M : mx_M} {Q : QQ} (W : wC M t n N K f Bs) (ho : o < K) (hx : x < N) (hq : Q (.inl (some (.int (w (rnk N (Bs o) x))))) M) : mx_W m_X3_rankOf d 0 [.ref 24, .int (w o), .int (w x)] [] M Q :=
  p_rankOf W.1 (W.2.2.2 o ho).2.1 hx hq
theorem c_card {d t n N K o r : Nat} {f : Nat → Nat} {Bs : BB} {M : mx_M} {Q : QQ} (W : wC M t n N K f Bs) (ho : o < K) (hr : r < N) (hq : Q (.inl (some (.int (w (crd N (Bs o) r))))) M) : mx_W m_X3_cardOfRank d 0 [.ref 24, .int (w o), .int (w r)] [] M Q := by
  have hb := W.2.1.2.2.1
  have O := W.2.2.2 o ho
  have e : w o * 10 + w r = w (10 * o + r) := by
    rw [show (10 : Int32) = w 10 from rfl, w_mul, w_add, Nat.mul_comm]
  refine x_X3_cardOfRank_0 W.1 _ _ ?_
  have h := O.2.2 _ (crd_lt O.1 hr)
  rw [crd_rnk O.1 hr] at h
  rw [e, w_nat (by omega), h]
  exact ⟨w_in (by omega) (by omega), hq⟩
