/-! the card that tells most -/
theorem or_small {m p : Nat} (hm : m < 2048) (hp : p ≤ 10) : ∃ m2, m2 < 2048 ∧ w m ||| (1 <<< (w p &&& 31)) = w m2 := by
  refine ⟨m ||| 2 ^ p, ?_, ?_⟩
  · exact Nat.or_lt_two_pow (n := 11) hm (Nat.pow_lt_pow_right (by decide) (by omega))
  · have e : (1 : Int32) <<< (w p &&& 31) = w (2 ^ p) := by
      rcases (show p = 0 ∨ p = 1 ∨ p = 2 ∨ p = 3 ∨ p = 4 ∨ p = 5 ∨ p = 6 ∨ p = 7 ∨ p = 8 ∨ p = 9 ∨ p = 10 by omega) with rfl | rfl | rfl | rfl | rfl | rfl | rfl | rfl | rfl | rfl | rfl <;> decide
    rw [e]
    apply Int32.toBitVec_inj.mp
    show BitVec.ofNat 32 m ||| BitVec.ofNat 32 (2 ^ p) = BitVec.ofNat 32 (m ||| 2 ^ p)
    exact (BitVec.ofNat_or).symm
theorem bts_small (g : Nat → Nat) : ∀ (k i m : Nat), m < 2048 → (∀ j, g j ≤ 10) → ∃ m2, m2 < 2048 ∧ btsF g i k (w m) = w m2
  | 0, i, m, hm, _ => ⟨m, hm, rfl⟩
  | k + 1, i, m, hm, hg => by
    obtain ⟨m2, h2, e2⟩ := or_small hm (hg i)
    rw [btsF, e2]
    exact bts_small g k (i + 1) m2 h2 hg
def mkF (n K : Nat) (f : Nat → Nat) (Bs : BB) (c : Nat) : Int32 := btsF (fun o => plf n f (Bs o) c) 0 K 0
/-- how many places the clerks have for c -/
def tcF (n K : Nat) (f : Nat → Nat) (Bs : BB) (c : Nat) : Int32 := rb (mkF n K f Bs c) 0 11 0
theorem plf_le (n : Nat) (f : Nat → Nat) (B : Nat → Nat → Bool) (c : Nat) : plf n f B c ≤ n := by
  have := fnd_le (fun i => B c (f i)) 0 n
  unfold plf; omega
theorem mk_small {n K : Nat} (f : Nat → Nat) (Bs : BB) (c : Nat) (hn : n ≤ 10) : ∃ m, m < 2048 ∧ mkF n K f Bs c = w m :=
  bts_small _ K 0 0 (by decide) (fun j => by have := plf_le n f (Bs j) c; omega)
theorem tc_bc {n K : Nat} (f : Nat → Nat) (Bs : BB) (c : Nat) (hn : n ≤ 10) : bcF (mkF n K f Bs c) = tcF n K f Bs c ∧ -1 < tcF n K f Bs c := by
  obtain ⟨m, hm, e⟩ := mk_small (K := K) f Bs c hn
  unfold tcF
  rw [e]
  exact bc_11 ⟨m, hm⟩
theorem p_unlike_l {d t n N K c : Nat} {f : Nat → Nat} {Bs : BB} {M : mx_M} {Q : QQ} (W : wC M t n N K f Bs) (hc : c < N) :
    ∀ (k i : Nat) (s : Int32), i + k = K → Q (.inl (some (.int (bcF (btsF (fun o => plf n f (Bs o) c) i k s))))) M → mx_W m_X10_unlikePlaces (d + 1 + 1 + 1) 4 [.ref 1, .int (w c), .int s, .int (w i)] [] M Q
  | 0, i, s, hi, hq => by
    have hb := W.2.1.2.2.1
    refine x_X10_unlikePlaces_4 W.1 t W.2.1.1.1 W.2.1.1.2 _ _ _ ⟨fun _ => p_bitCount W.1 ⟨rfl, rfl, _, rfl, hq⟩, fun h => absurd ?_ h⟩
    rw [W.2.1.2.1.2, w_le (by omega) (by omega)]; omega
  | k + 1, i, s, hi, hq => by
    have hb := W.2.1.2.2.1
    rw [btsF] at hq
    refine x_X10_unlikePlaces_4 W.1 t W.2.1.1.1 W.2.1.1.2 _ _ _ ⟨fun h => ?_, fun _ => p_placeFor W.1 (Or.inl rfl) W.2.2.1 (W.2.1.2.2.2 i (by omega)) c hc ⟨rfl, rfl, _, rfl, ?_⟩⟩
    · rw [W.2.1.2.1.2, w_le (by omega) (by omega)] at h; omega
    · rw [w_add1]
      exact p_unlike_l W hc k (i + 1) _ (by omega) hq
theorem p_unlike {d t n N K c : Nat} {f : Nat → Nat} {Bs : BB} {M : mx_M} {Q : QQ} (W : wC M t n N K f Bs) (hc : c < N) (hq : Q (.inl (some (.int (tcF n K f Bs c)))) M) : mx_W m_X10_unlikePlaces (d + 1 + 1 + 1) 0 [.ref 1, .int (w c), .retAddr 0, .retAddr 0] [] M Q := by
  rw [← (tc_bc f Bs c W.2.2.1.2.1.1).1] at hq
  exact x_X10_unlikePlaces_0 W.1 t W.2.1.1.1 W.2.1.1.2 _ (p_unlike_l W hc K 0 0 (Nat.zero_add K) hq)
abbrev TS := Option (Nat × Int32)
def tlS (n K : Nat) (f : Nat → Nat) (Bs : BB) (c : Nat) : TS → TS
  | none => some (c, tcF n K f Bs c)
  | some (b, m) => if m < tcF n K f Bs c then some (c, tcF n K f Bs c) else some (b, m)
def tlF (n K : Nat) (f : Nat → Nat) (Bs : BB) : Nat → Nat → TS → TS
  | _, 0, s => s
  | i, k + 1, s => tlF n K f Bs (i + 1) k (if plc n f i = -1 then tlS n K f Bs i s else s)
def tsB : TS → Int32
  | none => -1
  | some (b, _) => w b
def tsM (z : Int32) : TS → Int32
  | none => z
  | some (_, m) => m
def tsG (s : TS) : Prop := ∀ b m, s = some (b, m) → b < 10 ∧ -1 < m
theorem tsG_S {n K : Nat} {f : Nat → Nat} {Bs : BB} {c : Nat} {s : TS} (hn : n ≤ 10) (hc : c < 10) (h : tsG s) : tsG (tlS n K f Bs c s) := by
  intro b m e
  have h1 := (tc_bc (K := K) f Bs c hn).2
  cases s with
  | none => cases e; exact ⟨hc, h1⟩
  | some z =>
    obtain ⟨b9, m9⟩ := z
    rw [tlS] at e
    split at e
    · cases e; exact ⟨hc, h1⟩
    · exact h b m e
/-- the answer of telling -/
def tlA (v : Int32) (s : TS) : Int32 := if v = 0 then tsB s else tsM 0 s
theorem p_tell_l {d t n N K : Nat} {v : Int32} {f : Nat → Nat} {Bs : BB} {M : mx_M} {Q : QQ} (W : wC M t n N K f Bs) :
    ∀ (k i : Nat) (s : TS), i + k = N → tsG s → Q (.inl (some (.int (tlA v (tlF n K f Bs i k s))))) M → mx_W m_X10_telling (d + 1 + 1 + 1 + 1) 11 [.ref 1, .int v, .int (tsB s), .int (tsM 0 s), .int (w i), .retAddr 0] [] M Q
  | 0, i, s, hi, hs, hq => by
    have hb := W.2.1.2.2.1
    unfold tlA at hq
    refine x_X10_telling_11 W.1 t W.2.1.1.1 W.2.1.1.2 _ _ _ _ ⟨fun _ => ⟨fun g => ?_, fun g => ?_⟩, fun h => absurd ?_ h⟩
    · rw [if_neg g] at hq; exact hq
    · rw [if_pos g] at hq; exact hq
    · rw [W.2.1.2.1.1, w_le (by omega) (by omega)]; omega
  | k + 1, i, s, hi, hs, hq => by
    have hb := W.2.1.2.2.1
    rw [tlF] at hq
    refine x_X10_telling_11 W.1 t W.2.1.1.1 W.2.1.1.2 _ _ _ _ ⟨fun h => ?_, fun _ => p_placeOf W.1 (Or.inl rfl) W.2.2.1 i (by omega) ⟨rfl, rfl, _, rfl, fun g => ?_, fun g => p_unlike W (by omega) ⟨rfl, rfl, _, rfl, ?_⟩⟩⟩
    · rw [W.2.1.2.1.1, w_le (by omega) (by omega)] at h; omega
    · rw [if_neg g] at hq
      rw [w_add1]
      exact p_tell_l W k (i + 1) s (by omega) hs hq
    · rw [if_pos g] at hq
      rw [w_add1]
      have G := tsG_S (n := n) (K := K) (f := f) (Bs := Bs) (c := i) W.2.2.1.2.1.1 (by omega) hs
      cases s with
      | none =>
        have := p_tell_l (d := d) W k (i + 1) _ (by omega) G hq
        exact ⟨fun _ => this, fun z => absurd rfl z⟩
      | some z =>
        obtain ⟨b, m⟩ := z
        have hb2 := hs b m rfl
        have := p_tell_l (d := d) W k (i + 1) _ (by omega) G hq
        rw [tlS] at this
        refine ⟨fun z => absurd z (w_ne1 (by omega)), fun _ => ⟨fun z => ?_, fun z => ?_⟩⟩
        · rw [if_neg (show ¬ m < tcF n K f Bs i from Int32.not_lt.mpr z)] at this
          exact this
        · rw [if_pos (show m < tcF n K f Bs i from Int32.not_le.mp z)] at this
          exact this
theorem p_telling {d t n N K : Nat} {v : Int32} {f : Nat → Nat} {Bs : BB} {M : mx_M} {Q : QQ} (W : wC M t n N K f Bs) (hr : rmE M) (h1 : isIn v 2 → Q (.inl (some (.int (tlA v (tlF n K f Bs 0 N none))))) M) (h2 : ¬ isIn v 2 → Q (.inr "java/util/NoSuchElementException") (mx_thM M)) : mx_W m_X10_telling (d + 1 + 1 + 1 + 1) 0 [.ref 1, .int v, .retAddr 0, .retAddr 0, .retAddr 0, .retAddr 0] [] M Q :=
  x_X10_telling_0 W.1 t W.2.1.1.1 W.2.1.1.2 _ (p_needZeroOrOne W.1 W.2.1.1.1 W.2.1.1.2 hr (fun g => ⟨rfl, rfl, Or.inl ⟨rfl, p_tell_l W N 0 none (Nat.zero_add N) (fun b m e => by cases e) (h1 g)⟩⟩) (fun g => ⟨rfl, rfl, Or.inr ⟨_, rfl, h2 g⟩⟩))
theorem q_tell_c {d n N K c : Nat} {v b2 m2 s2 : Int32} {f : Nat → Nat} {Bs : BB} {M : mx_M} {Q : QQ} (W : wM M n N K f Bs)
    (X : (m2 < rb s2 0 11 0 → mx_W m_X11_telling (d + 4 + 1 + 1) 23 [.ref 58, .int v, .int (w c), .int (rb s2 0 11 0), .int (w (c + 1)), .retAddr 0, .retAddr 0, .retAddr 0] [] M Q) ∧ (¬ m2 < rb s2 0 11 0 → mx_W m_X11_telling (d + 4 + 1 + 1) 23 [.ref 58, .int v, .int b2, .int m2, .int (w (c + 1)), .retAddr 0, .retAddr 0, .retAddr 0] [] M Q)) :
    ∀ (k i : Nat) (s : Int32), i + k = 11 → rb s2 i k s = rb s2 0 11 0 → mx_W m_X11_telling (d + 4 + 1 + 1) 94 [.ref 58, .int v, .int b2, .int m2, .int (w c), .int s2, .int s, .int (w i)] [] M Q
  | 0, i, s, hi, e => by
    rw [rb] at e
    rw [← e] at X
    refine x_X11_telling_94 W.1 _ _ _ _ _ _ _ ⟨fun _ => ?_, fun h => absurd ?_ h⟩
    · rw [w_add1]; exact X
    · rw [show (10 : Int32) = w 10 from rfl, w_lt (by omega) (by omega)]; omega
  | k + 1, i, s, hi, e => by
    refine x_X11_telling_94 W.1 _ _ _ _ _ _ _ ⟨fun h => ?_, fun h => ?_⟩
    · rw [show (10 : Int32) = w 10 from rfl, w_lt (by omega) (by omega)] at h; omega
    · rw [w_add1]
      exact q_tell_c W X k (i + 1) _ (by omega) e
theorem q_tell_m {d n N K c : Nat} {v b2 m2 : Int32} {f : Nat → Nat} {Bs : BB} {M0 : mx_M} {Q : QQ} (hc : c < N)
    (X : ∀ M1, wM M1 n N K f Bs → lip mQ M0 M1 → mx_W m_X11_telling (d + 4 + 1 + 1) 94 [.ref 58, .int v, .int b2, .int m2, .int (w c), .int (mkF n K f Bs c), .int 0, .int 0] [] M1 Q) :
    ∀ (k i : Nat) (s : Int32) (M : mx_M), wM M n N K f Bs → lip mQ M0 M → i + k = K → btsF (fun o => plf n f (Bs o) c) i k s = mkF n K f Bs c → mx_W m_X11_telling (d + 4 + 1 + 1) 54 [.ref 58, .int v, .int b2, .int m2, .int (w c), .int s, .int (w i), .retAddr 0] [] M Q
  | 0, i, s, M, W, L, hi, e => by
    have hb := W.2.1.2.1
    refine x_X11_telling_54 W.1 _ _ _ _ _ _ ⟨fun _ => ?_, fun h => absurd ?_ h⟩
    · have := X M W L
      rw [← e] at this
      exact this
    · rw [W.2.1.1.2, w_le (by omega) (by omega)]; omega
  | k + 1, i, s, M, W, L, hi, e => by
    have hb := W.2.1.2.1
    rw [btsF] at e
    refine x_X11_telling_54 W.1 _ _ _ _ _ _ ⟨fun h => ?_, fun _ => q_placeFor W (by omega) hc (fun M1 W1 L1 => ⟨L1.1.1, L1.1.2.1, _, rfl, ?_⟩)⟩
    · rw [W.2.1.1.2, w_le (by omega) (by omega)] at h; omega
    · rw [w_add1]
      exact q_tell_m hc X k (i + 1) _ M1 W1 (lip_trans L L1) (by omega) e
theorem q_tell_l {d n N K : Nat} {v : Int32} {f : Nat → Nat} {Bs : BB} {M0 : mx_M} {Q : QQ} (s9 : TS) (hq : ∀ M1, wM M1 n N K f Bs → lip mQ M0 M1 → Q (.inl (some (.int (tlA v s9)))) M1) :
    ∀ (k i : Nat) (s : TS) (M : mx_M), wM M n N K f Bs → lip mQ M0 M → i + k = N → tsG s → tlF n K f Bs i k s = s9 → mx_W m_X11_telling (d + 4 + 1 + 1) 23 [.ref 58, .int v, .int (tsB s), .int (tsM (-1) s), .int (w i), .retAddr 0, .retAddr 0, .retAddr 0] [] M Q
  | 0, i, s, M, W, L, hi, hs, e => by
    have hb := W.2.1.2.1
    have H := hq M W L
    rw [← e] at H
    unfold tlA at H
    refine x_X11_telling_23 W.1 _ _ _ _ ⟨fun _ => ⟨fun g => ?_, fun g => ?_⟩, fun h => absurd ?_ h⟩
    · rw [if_neg g] at H
      cases s with
      | none => exact ⟨fun z => absurd rfl z, fun _ => H⟩
      | some z =>
        obtain ⟨b, m⟩ := z
        exact ⟨fun _ => H, fun z => absurd (hs b m rfl).2 (by show ¬ -1 < m; rw [show m = -1 from z]; decide)⟩
    · rw [if_pos g] at H; exact H
    · rw [W.2.1.1.1, w_le (by omega) (by omega)]; omega
  | k + 1, i, s, M, W, L, hi, hs, e => by
    have hb := W.2.1.2.1
    rw [tlF] at e
    refine x_X11_telling_23 W.1 _ _ _ _ ⟨fun h => ?_, fun _ => q_place W (by omega) ⟨rfl, rfl, _, rfl, fun g => ?_, fun g => ?_⟩⟩
    · rw [W.2.1.1.1, w_le (by omega) (by omega)] at h; omega
    · rw [if_pos g] at e
      have G := tsG_S (n := n) (K := K) (f := f) (Bs := Bs) (c := i) W.2.2.2.1.1 (by omega) hs
      have h1 := (tc_bc (K := K) f Bs i W.2.2.2.1.1).2
      refine q_tell_m (by omega) (fun M1 W1 L1 => q_tell_c W1 ⟨fun z => ?_, fun z => ?_⟩ 11 0 0 rfl rfl) K 0 0 M W L (Nat.zero_add K) rfl
      · have this := q_tell_l (d := d) s9 hq k (i + 1) _ M1 W1 L1 (by omega) G e
        cases s with
        | none => exact this
        | some y =>
          obtain ⟨b, m⟩ := y
          rw [tlS, if_pos (show m < tcF n K f Bs i from z)] at this
          exact this
      · have this := q_tell_l (d := d) s9 hq k (i + 1) _ M1 W1 L1 (by omega) G e
        cases s with
        | none => exact absurd h1 z
        | some y =>
          obtain ⟨b, m⟩ := y
          rw [tlS, if_neg (show ¬ m < tcF n K f Bs i from z)] at this
          exact this
    · rw [if_neg g] at e
      rw [w_add1]
      exact q_tell_l s9 hq k (i + 1) s M W L (by omega) hs e
theorem q_telling {d n N K : Nat} {v : Int32} {f : Nat → Nat} {Bs : BB} {M : mx_M} {Q : QQ} (W : wM M n N K f Bs) (h1 : isIn v 2 → ∀ M1, wM M1 n N K f Bs → lip mQ (mx_setI M 58 0 0) M1 → Q (.inl (some (.int (tlA v (tlF n K f Bs 0 N none))))) M1)
    (h2 : ¬ isIn v 2 → Q (.inl (some (.int 0))) (mx_setI (mx_setI M 58 0 0) 58 0 1)) : mx_W m_X11_telling (d + 4 + 1 + 1) 0 [.ref 58, .int v, .retAddr 0, .retAddr 0, .retAddr 0, .retAddr 0, .retAddr 0, .retAddr 0] [] M Q :=
  x_X11_telling_0 W.1 _ (fun M1 e1 => by
    subst e1
    have W1 := wM_0 (v := 0) W
    exact p_isWhat (n := 1) W1.1 I_eq (by decide) (fun g => ⟨rfl, rfl, _, rfl, fun _ => q_tell_l _ (h1 g) N 0 none _ W1 (lip_refl _ _) (Nat.zero_add N) (fun b m e => by cases e) rfl, fun z => by cases z⟩) (fun g => ⟨rfl, rfl, _, rfl, fun z => (by cases z), fun _ => h2 g⟩))
