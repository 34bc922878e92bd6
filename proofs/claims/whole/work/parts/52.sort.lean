/-! a sorted row: the same cards, each behind those of lesser rank -/
/-- the sum of h 0, .., h (n - 1) -/
def su (h : Nat → Nat) : Nat → Nat
  | 0 => 0
  | k + 1 => su h k + h k
theorem su_congr {h g : Nat → Nat} : ∀ (n : Nat), (∀ i, i < n → h i = g i) → su h n = su g n
  | 0, _ => rfl
  | n + 1, e => by rw [su, su, su_congr n (fun i hi => e i (by omega)), e n (by omega)]
theorem su_add (h g : Nat → Nat) : ∀ (n : Nat), su (fun i => h i + g i) n = su h n + su g n
  | 0 => rfl
  | n + 1 => by rw [su, su, su, su_add h g n]; omega
def bn (b : Bool) : Nat := if b then 1 else 0
theorem cnt_end (p : Nat → Bool) : ∀ (k i : Nat), cnt p i (k + 1) = cnt p i k + bn (p (i + k))
  | 0, i => by
    unfold bn
    simp [cnt]
  | k + 1, i => by
    have ih := cnt_end p k (i + 1)
    rw [cnt, ih, show cnt p i (k + 1) = (if p i = true then 1 else 0) + cnt p (i + 1) k from rfl, show i + 1 + k = i + (k + 1) by omega]
    omega
theorem cnt_su (p : Nat → Bool) : ∀ (n : Nat), cnt p 0 n = su (fun i => bn (p i)) n
  | 0 => rfl
  | n + 1 => by rw [cnt_end, su, cnt_su p n, Nat.zero_add]
/-- g is f in another order -/
def prm (n : Nat) (f g : Nat → Nat) : Prop := ∀ h : Nat → Nat, su (fun i => h (g i)) n = su (fun i => h (f i)) n
theorem prm_cnt {n : Nat} {f g : Nat → Nat} (P : prm n f g) (p : Nat → Bool) : cnt (fun i => p (g i)) 0 n = cnt (fun i => p (f i)) 0 n := by
  rw [cnt_su, cnt_su]
  exact P (fun x => bn (p x))
/-- each card once -/
def dst (n : Nat) (f : Nat → Nat) : Prop := ∀ i j, i < n → j < n → f i = f j → i = j
theorem cnt_two {p : Nat → Bool} {i j n : Nat} (hij : i < j) (hj : j < n) (h1 : p i = true) (h2 : p j = true) : 2 ≤ cnt p 0 n := by
  have a1 : cnt (fun k => decide (k = i)) 0 n < cnt p 0 n := cnt_lt (z := j) (decide_eq_false (by omega)) h2 n 0 (Nat.zero_le _) (by omega) (fun k _ _ h => by rw [of_decide_eq_true h]; exact h1)
  have a2 : 0 < cnt (fun k => decide (k = i)) 0 n := cnt_pos (z := i) (decide_eq_true rfl) (Nat.zero_le _) (by omega)
  omega
theorem dst_cnt {n : Nat} {f : Nat → Nat} (h : ∀ v, cnt (fun i => decide (f i = v)) 0 n ≤ 1) : dst n f := by
  intro i j hi hj e
  rcases Nat.lt_trichotomy i j with g | g | g
  · have := cnt_two (p := fun k => decide (f k = f j)) g hj (decide_eq_true e) (decide_eq_true rfl)
    have := h (f j); omega
  · exact g
  · have := cnt_two (p := fun k => decide (f k = f i)) g hi (decide_eq_true e.symm) (decide_eq_true rfl)
    have := h (f i); omega
theorem cnt_one {n : Nat} {f : Nat → Nat} (D : dst n f) (v : Nat) : ∀ k, k ≤ n → cnt (fun i => decide (f i = v)) 0 k ≤ 1 := by
  intro k
  induction k with
  | zero => intro _; exact Nat.zero_le _
  | succ k ih =>
    intro hk
    rw [cnt_end, Nat.zero_add]
    by_cases e : f k = v
    · have : cnt (fun i => decide (f i = v)) 0 k = 0 := by
        refine Eq.trans ?_ (cnt_none k 0)
        refine cnt_congr (p := fun i => decide (f i = v)) (q := fun _ => false) 0 k (fun j _ hj => decide_eq_false (p := f j = v) (fun g => ?_))
        have := D j k (by omega) (by omega) (by rw [g, e]); omega
      rw [this]
      unfold bn
      split <;> omega
    · have := ih (by omega)
      unfold bn
      rw [decide_eq_false e, if_neg (by decide)]
      omega
theorem prm_dst {n : Nat} {f g : Nat → Nat} (P : prm n f g) (D : dst n f) : dst n g := by
  refine dst_cnt (fun v => ?_)
  rw [prm_cnt P (fun x => decide (x = v))]
  exact cnt_one D v n (Nat.le_refl _)
theorem cnt_ex {p : Nat → Bool} : ∀ (k i : Nat), 0 < cnt p i k → ∃ j, i ≤ j ∧ j < i + k ∧ p j = true
  | 0, i, h => by rw [cnt] at h; omega
  | k + 1, i, h => by
    rw [cnt] at h
    by_cases e : p i = true
    · exact ⟨i, Nat.le_refl _, by omega, e⟩
    · rw [if_neg e] at h
      obtain ⟨j, h1, h2, h3⟩ := cnt_ex (p := p) k (i + 1) (by omega)
      exact ⟨j, by omega, by omega, h3⟩
theorem prm_mem {n : Nat} {f g : Nat → Nat} (P : prm n f g) {i : Nat} (hi : i < n) : ∃ j, j < n ∧ g j = f i := by
  have h : 0 < cnt (fun k => decide (g k = f i)) 0 n := by
    rw [prm_cnt P (fun x => decide (x = f i))]
    exact cnt_pos (z := i) (decide_eq_true rfl) (Nat.zero_le _) (by omega)
  obtain ⟨j, _, h2, h3⟩ := cnt_ex n 0 h
  exact ⟨j, by omega, of_decide_eq_true h3⟩
theorem prm_lt {n N : Nat} {f g : Nat → Nat} (P : prm n f g) (h : ∀ i, i < n → f i < N) : ∀ i, i < n → g i < N := by
  intro i hi
  by_cases e : g i < N
  · exact e
  · have a : 0 < cnt (fun k => decide (¬ g k < N)) 0 n := cnt_pos (z := i) (decide_eq_true e) (Nat.zero_le _) (by omega)
    rw [prm_cnt P (fun x => decide (¬ x < N))] at a
    obtain ⟨j, _, h2, h3⟩ := cnt_ex n 0 a
    exact absurd (h j (by omega)) (of_decide_eq_true h3)
theorem sh_hi (B : Nat → Nat → Bool) (c : Nat) : ∀ (j : Nat) (f : Nat → Nat) (k : Nat), j < k → shF B c j f k = f k
  | 0, f, k, h => by rw [shF]; exact setF_ne (by omega)
  | j + 1, f, k, h => by
    rw [shF]
    split
    · rw [sh_hi B c j _ k (by omega)]; exact setF_ne (by omega)
    · exact setF_ne (by omega)
theorem sh_su (B : Nat → Nat → Bool) (c : Nat) (h : Nat → Nat) : ∀ (j : Nat) (f : Nat → Nat), su (fun i => h (shF B c j f i)) (j + 1) = h c + su (fun i => h (f i)) j
  | 0, f => by rw [su, su, su, shF, setF_eq]; omega
  | j + 1, f => by
    rw [su, shF]
    by_cases g : B c (f j) = true
    · rw [if_pos g, sh_su B c h j, sh_hi B c j _ (j + 1) (by omega), setF_eq, su]
      rw [su_congr (h := fun i => h (setF f (j + 1) (f j) i)) (g := fun i => h (f i)) j (fun i hi => by rw [setF_ne (by omega)])]
      omega
    · rw [if_neg g, setF_eq]
      rw [su_congr (h := fun i => h (setF f (j + 1) c i)) (g := fun i => h (f i)) (j + 1) (fun i hi => by rw [setF_ne (by omega)])]
      omega
theorem su_hi {h g : Nat → Nat} {a : Nat} (e : su h a = su g a) : ∀ (k : Nat), (∀ i, a ≤ i → h i = g i) → su h (a + k) = su g (a + k)
  | 0, _ => e
  | k + 1, e2 => by rw [← Nat.add_assoc, su, su, su_hi e k e2, e2 (a + k) (by omega)]
theorem sh_prm (B : Nat → Nat → Bool) {n i : Nat} (hi : i < n) (f : Nat → Nat) : prm n f (shF B (f i) i f) := by
  intro h
  have a := sh_su B (f i) h i f
  have b : su (fun k => h (shF B (f i) i f k)) (i + 1) = su (fun k => h (f k)) (i + 1) := by
    rw [a, su]; omega
  have := su_hi b (n - (i + 1)) (fun k hk => by rw [sh_hi B (f i) i f k (by omega)])
  rw [show i + 1 + (n - (i + 1)) = n by omega] at this
  exact this
theorem prm_trans {n : Nat} {f g k : Nat → Nat} (P : prm n f g) (P2 : prm n g k) : prm n f k := fun h => (P2 h).trans (P h)
theorem sh_ins (B : Nat → Nat → Bool) (c : Nat) : ∀ (j : Nat) (f : Nat → Nat), ∃ p, p ≤ j ∧ (∀ i, i ≤ j → shF B c j f i = insF p c f i) ∧ (∀ a, p ≤ a → a < j → B c (f a) = true) ∧ (p = 0 ∨ B c (f (p - 1)) = false)
  | 0, f => ⟨0, Nat.le_refl _, fun i hi => by
      have e : i = 0 := by omega
      subst e
      rw [shF, setF_eq]; rfl, fun a h1 h2 => by omega, Or.inl rfl⟩
  | j + 1, f => by
    by_cases g : B c (f j) = true
    · obtain ⟨p, h1, h2, h3, h4⟩ := sh_ins B c j (setF f (j + 1) (f j))
      refine ⟨p, by omega, fun i hi => ?_, fun a a1 a2 => ?_, ?_⟩
      · rw [shF, if_pos g]
        by_cases e : i = j + 1
        · rw [e, sh_hi B c j _ _ (by omega), setF_eq]
          unfold insF
          rw [if_neg (by omega), if_neg (by omega)]
          rfl
        · rw [h2 i (by omega)]
          unfold insF
          rw [setF_ne e, setF_ne (show ¬ i - 1 = j + 1 by omega)]
      · by_cases e : a = j
        · rw [e]; exact g
        · have := h3 a a1 (by omega)
          rw [setF_ne (by omega)] at this
          exact this
      · rcases h4 with e | e
        · exact Or.inl e
        · rw [setF_ne (by omega)] at e
          exact Or.inr e
    · refine ⟨j + 1, Nat.le_refl _, fun i hi => ?_, fun a a1 a2 => by omega, Or.inr ?_⟩
      · rw [shF, if_neg g]
        unfold insF
        by_cases e : i = j + 1
        · rw [e, setF_eq, if_neg (by omega), if_pos rfl]
        · rw [setF_ne e, if_pos (by omega)]
      · show B c (f j) = false
        cases h : B c (f j)
        · rfl
        · exact absurd h g
/-- by rank, from place 0 up to j (not itself) -/
def srt (r : Nat → Nat) (f : Nat → Nat) (j : Nat) : Prop := ∀ a b, a < b → b < j → r (f a) < r (f b)
theorem sh_srt {N j : Nat} {B : Nat → Nat → Bool} {f : Nat → Nat} (S : sto N B) {c : Nat} (hc : c < N) (hf : ∀ a, a < j → f a < N ∧ ¬ f a = c) (H : srt (rnk N B) f j) : srt (rnk N B) (shF B c j f) (j + 1) := by
  obtain ⟨p, h1, h2, h3, h4⟩ := sh_ins B c j f
  have up : ∀ a, p ≤ a → a < j → rnk N B c < rnk N B (f a) := fun a a1 a2 => rnk_up S hc (hf a a2).1 (h3 a a1 a2)
  have dn : ∀ a, a < p → rnk N B (f a) < rnk N B c := by
    intro a ha
    have q1 : rnk N B (f (p - 1)) < rnk N B c := by
      rcases h4 with e | e
      · omega
      · have := hf (p - 1) (by omega)
        rcases S.2.2 c (f (p - 1)) hc this.1 (fun z => this.2 z.symm) with g | g
        · rw [e] at g; cases g
        · exact rnk_up S this.1 hc g
    by_cases e : a = p - 1
    · rw [e]; exact q1
    · have := H a (p - 1) (by omega) (by omega); omega
  intro a b hab hb
  rw [h2 a (by omega), h2 b (by omega)]
  unfold insF
  by_cases e1 : b < p
  · rw [if_pos (show a < p by omega), if_pos e1]
    exact H a b hab (by omega)
  · rw [if_neg e1]
    by_cases e2 : b = p
    · rw [if_pos e2, if_pos (show a < p by omega)]
      exact dn a (by omega)
    · rw [if_neg e2]
      by_cases e3 : a < p
      · rw [if_pos e3]
        have q1 := dn a e3
        have q2 := up (b - 1) (by omega) (by omega)
        omega
      · rw [if_neg e3]
        by_cases e4 : a = p
        · rw [if_pos e4]
          exact up (b - 1) (by omega) (by omega)
        · rw [if_neg e4]
          exact H (a - 1) (b - 1) (by omega) (by omega)
theorem srt_l {N n : Nat} {B : Nat → Nat → Bool} (S : sto N B) : ∀ (k i : Nat) (f : Nat → Nat), i + k = n → (∀ a, a < n → f a < N) → dst n f → srt (rnk N B) f i → prm n f (srtF B i k f) ∧ srt (rnk N B) (srtF B i k f) n
  | 0, i, f, hi, _, _, H => by
    have e : i = n := by omega
    subst e
    exact ⟨fun h => rfl, H⟩
  | k + 1, i, f, hi, hf, D, H => by
    have P := sh_prm B (show i < n by omega) f
    have ih := srt_l S k (i + 1) (shF B (f i) i f) (by omega) (prm_lt P hf) (prm_dst P D) (sh_srt S (hf i (by omega)) (fun a ha => ⟨hf a (by omega), fun e => by have := D a i (by omega) (by omega) e; omega⟩) H)
    rw [srtF]
    exact ⟨prm_trans P ih.1, ih.2⟩
theorem srt_ok {N n : Nat} {B : Nat → Nat → Bool} {f : Nat → Nat} (S : sto N B) (hf : ∀ a, a < n → f a < N) (D : dst n f) : prm n f (srtF B 1 (n - 1) f) ∧ srt (rnk N B) (srtF B 1 (n - 1) f) n := by
  cases n with
  | zero => exact ⟨fun h => rfl, fun a b _ h => by omega⟩
  | succ n => exact srt_l S n 1 f (by omega) hf D (fun a b h1 h2 => by omega)
/-- the place of a card in the sorted row: how many are ahead of it -/
theorem cnt_below : ∀ (n q : Nat), q ≤ n → cnt (fun i => decide (i < q)) 0 n = q
  | 0, q, h => by rw [cnt]; omega
  | n + 1, q, h => by
    rw [cnt_end, Nat.zero_add]
    by_cases e : q = n + 1
    · rw [e, cnt_congr (q := fun _ => true) 0 n (fun j _ hj => decide_eq_true (by omega)), cnt_all]
      unfold bn
      rw [decide_eq_true (by omega), if_pos rfl]
    · rw [cnt_below n q (by omega)]
      unfold bn
      rw [decide_eq_false (by omega), if_neg (by decide)]
      omega
theorem off_eq {N n c : Nat} {B : Nat → Nat → Bool} {f : Nat → Nat} (S : sto N B) (hf : ∀ a, a < n → f a < N) (D : dst n f) {i : Nat} (hi : i < n) (e : f i = c) : plc n (srtF B 1 (n - 1) f) c = w (cnt (fun i => B (f i) c) 0 n) := by
  obtain ⟨P, H⟩ := srt_ok S hf D
  generalize srtF B 1 (n - 1) f = F at P H ⊢
  have hF := prm_lt P hf
  have DF := prm_dst P D
  obtain ⟨q, hq, eq⟩ := prm_mem P hi
  rw [e] at eq
  have e1 : fnd (fun i => decide (F i = c)) 0 n = q := by
    have l1 := fnd_le (fun i => decide (F i = c)) 0 n
    have l2 : fnd (fun i => decide (F i = c)) 0 n < n := by
      by_cases g : fnd (fun i => decide (F i = c)) 0 n < n
      · exact g
      · have := fnd_not (fun i => decide (F i = c)) 0 n q (Nat.zero_le _) (by omega)
        rw [decide_eq_true eq] at this; cases this
    have l3 := of_decide_eq_true (fnd_so (fun i => decide (F i = c)) 0 n (by omega))
    exact DF _ _ l2 hq (by rw [l3, eq])
  unfold plc
  rw [e1, fz_lt hq, ← prm_cnt P (fun x => B x c)]
  congr 1
  rw [cnt_congr (q := fun i => decide (i < q)) 0 n (fun j _ hj => ?_), cnt_below n q (by omega)]
  have hj : j < n := by omega
  rw [← eq, rnk_iff S (hF j hj) (hF q hq)]
  by_cases g : j < q
  · rw [decide_eq_true g, decide_eq_true (H j q g hq)]
  · rw [decide_eq_false g]
    apply decide_eq_false
    by_cases g2 : j = q
    · rw [g2]; omega
    · have := H q j (by omega) hj; omega
/-! couples of a row, whatever its order -/
theorem cpl_end (p : Nat → Nat → Bool) : ∀ (k i : Nat), cpl p i (k + 1) = cpl p i k + cnt (fun a => p a (i + k)) i k
  | 0, i => by rw [cpl, cpl, cnt, cnt, cpl]
  | k + 1, i => by
    have ih := cpl_end p k (i + 1)
    have e1 : cpl p i (k + 1 + 1) = cnt (fun j => p i j) (i + 1) (k + 1) + cpl p (i + 1) (k + 1) := rfl
    have e2 : cpl p i (k + 1) = cnt (fun j => p i j) (i + 1) k + cpl p (i + 1) k := rfl
    rw [e1, ih, e2, cnt_end (fun j => p i j) k (i + 1)]
    have e3 : cnt (fun a => p a (i + (k + 1))) i (k + 1) = bn (p i (i + (k + 1))) + cnt (fun a => p a (i + (k + 1))) (i + 1) k := rfl
    rw [e3, show i + 1 + k = i + (k + 1) by omega]
    omega
theorem cpl_dbl (p : Nat → Nat → Bool) (hs : ∀ i j, p i j = p j i) (hd : ∀ i, p i i = false) : ∀ (n : Nat), su (fun i => su (fun j => bn (p i j)) n) n = 2 * cpl p 0 n
  | 0 => rfl
  | n + 1 => by
    have ih := cpl_dbl p hs hd n
    have e1 : su (fun i => su (fun j => bn (p i j)) (n + 1)) n = su (fun i => su (fun j => bn (p i j)) n) n + su (fun i => bn (p i n)) n := su_add (fun i => su (fun j => bn (p i j)) n) (fun i => bn (p i n)) n
    have e2 : su (fun j => bn (p n j)) n = su (fun i => bn (p i n)) n := su_congr n (fun i _ => by rw [hs n i])
    have e3 : bn (p n n) = 0 := by rw [hd n]; rfl
    have e4 := cpl_end p n 0
    rw [Nat.zero_add, cnt_su] at e4
    show su (fun i => su (fun j => bn (p i j)) (n + 1)) n + (su (fun j => bn (p n j)) n + bn (p n n)) = _
    rw [e1, ih, e2, e3, e4]
    omega
theorem cpl_prm {n : Nat} {f g : Nat → Nat} (P : prm n f g) (S : Nat → Nat → Bool) (hs : ∀ x y, S x y = S y x) (hd : ∀ x, S x x = false) : cpl (fun i j => S (g i) (g j)) 0 n = cpl (fun i j => S (f i) (f j)) 0 n := by
  have a := cpl_dbl (fun i j => S (g i) (g j)) (fun i j => hs _ _) (fun i => hd _) n
  have b := cpl_dbl (fun i j => S (f i) (f j)) (fun i j => hs _ _) (fun i => hd _) n
  have e1 : su (fun i => su (fun j => bn (S (g i) (g j))) n) n = su (fun i => su (fun j => bn (S (g i) (f j))) n) n := su_congr n (fun i _ => P (fun y => bn (S (g i) y)))
  have e2 : su (fun i => su (fun j => bn (S (g i) (f j))) n) n = su (fun i => su (fun j => bn (S (f i) (f j))) n) n := P (fun x => su (fun j => bn (S x (f j))) n)
  rw [e1, e2] at a
  omega
theorem wrb_cpl (f : Nat → Nat) (B : Nat → Nat → Bool) : ∀ (k i : Nat), wrb f B i k = cpl (fun a b => B (f b) (f a)) i k
  | 0, i => rfl
  | k + 1, i => by rw [wrb, cpl, wrb_cpl f B k (i + 1)]
theorem cpl_congr {p q : Nat → Nat → Bool} : ∀ (k i : Nat), (∀ a b, i ≤ a → a < b → b < i + k → p a b = q a b) → cpl p i k = cpl q i k
  | 0, i, _ => rfl
  | k + 1, i, h => by
    rw [cpl, cpl, cnt_congr (q := fun j => q i j) (i + 1) k (fun j h1 h2 => h i j (Nat.le_refl _) (by omega) (by omega)), cpl_congr k (i + 1) (fun a b h1 h2 h3 => h a b (by omega) h2 (by omega))]
theorem cpl_none : ∀ (k i : Nat), cpl (fun _ _ => false) i k = 0
  | 0, i => rfl
  | k + 1, i => by rw [cpl, cnt_none, cpl_none k (i + 1)]
theorem sto_opp {N x y : Nat} {B : Nat → Nat → Bool} (S : sto N B) (hx : x < N) (hy : y < N) (h : ¬ x = y) : B y x = !B x y := by
  rcases S.2.2 x y hx hy h with g | g
  · rw [g, sto_not S hx hy g]; rfl
  · rw [g, sto_not S hy hx g]; rfl
/-- filed by one, what stands wrong by another: their couples apart -/
theorem game_eq {N n : Nat} {B B2 : Nat → Nat → Bool} {f : Nat → Nat} (S : sto N B) (S2 : sto N B2) (hf : ∀ a, a < n → f a < N) (D : dst n f) : wrb (srtF B 1 (n - 1) f) B2 0 n = cpl (fun i j => B (f i) (f j) != B2 (f i) (f j)) 0 n := by
  obtain ⟨P, H⟩ := srt_ok S hf D
  generalize srtF B 1 (n - 1) f = F at P H ⊢
  have hF := prm_lt P hf
  have DF := prm_dst P D
  have key := cpl_prm P (fun x y => decide (¬ x = y) && decide (x < N) && decide (y < N) && (B x y != B2 x y)) (fun x y => by
    by_cases e : x = y
    · rw [e]
    · by_cases e1 : x < N
      · by_cases e2 : y < N
        · have a1 := sto_opp S e1 e2 e
          have a2 := sto_opp S2 e1 e2 e
          rw [a1, a2, decide_eq_true e, decide_eq_true (show ¬ y = x from fun z => e z.symm), decide_eq_true e1, decide_eq_true e2]
          cases B x y <;> cases B2 x y <;> rfl
        · rw [decide_eq_false e2, Bool.and_false, Bool.and_false, Bool.false_and, Bool.false_and, Bool.false_and]
      · rw [decide_eq_false e1, Bool.and_false, Bool.and_false, Bool.false_and, Bool.false_and, Bool.false_and]) (fun x => by rw [decide_eq_false (show ¬ ¬ x = x from fun z => z rfl), Bool.false_and, Bool.false_and, Bool.false_and])
  rw [wrb_cpl]
  rw [cpl_congr (p := fun a b => B2 (F b) (F a)) (q := fun i j => decide (¬ F i = F j) && decide (F i < N) && decide (F j < N) && (B (F i) (F j) != B2 (F i) (F j))) n 0 (fun a b _ h1 h2 => ?_), key]
  · refine cpl_congr n 0 (fun a b _ h1 h2 => ?_)
    rw [decide_eq_true (show ¬ f a = f b from fun z => by have := D a b (by omega) (by omega) z; omega), decide_eq_true (hf a (by omega)), decide_eq_true (hf b (by omega))]
    rfl
  · have hne : ¬ F a = F b := fun z => by have := DF a b (by omega) (by omega) z; omega
    have a1 : B (F a) (F b) = true := by rw [rnk_iff S (hF a (by omega)) (hF b (by omega)), decide_eq_true (H a b h1 (by omega))]
    have a2 := sto_opp S2 (hF a (by omega)) (hF b (by omega)) hne
    rw [a1, a2, decide_eq_true hne, decide_eq_true (hF a (by omega)), decide_eq_true (hF b (by omega))]
    cases B2 (F a) (F b) <;> rfl
theorem game_own {N n : Nat} {B : Nat → Nat → Bool} {f : Nat → Nat} (S : sto N B) (hf : ∀ a, a < n → f a < N) (D : dst n f) : wrb (srtF B 1 (n - 1) f) B 0 n = 0 := by
  rw [game_eq S S hf D, cpl_congr (q := fun _ _ => false) n 0 (fun a b _ _ _ => by cases B (f a) (f b) <;> rfl), cpl_none]
