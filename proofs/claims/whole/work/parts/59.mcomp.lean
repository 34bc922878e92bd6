/-! the reference's compromise -/
theorem q_hurt_i {d n N K c o : Nat} {s : Nat} {f : Nat → Nat} {Bs : BB} {M0 : mx_M} {Q : QQ} (hc : c < N) (ho : o < N) (s9 : Nat)
    (X : ∀ M1, wM M1 n N K f Bs → lik mSc M0 M1 → mx_W m_X11_hurtBy (d + 4 + 1) 5 [.ref 58, .int (w c), .int (w s), .int (w s9), .int (w (o + 1)), .retAddr 0] [] M1 Q) :
    ∀ (k q a : Nat) (M : mx_M), wM M n N K f Bs → lik mSc M0 M → q + k = K → a + cnt (fun q => Bs q o c) q k = s9 → mx_W m_X11_hurtBy (d + 4 + 1) 35 [.ref 58, .int (w c), .int (w s), .int (w a), .int (w o), .int (w q)] [] M Q
  | 0, q, a, M, W, L, hq, e => by
    have hb := W.2.1.2.1
    have e : a = s9 := e
    subst e
    refine x_X11_hurtBy_35 W.1 _ _ _ _ _ ⟨fun _ => ?_, fun h => absurd ?_ h⟩
    · rw [w_add1]; exact X M W L
    · rw [W.2.1.1.2, w_le (by omega) (by omega)]; omega
  | k + 1, q, a, M, W, L, hq, e => by
    have hb := W.2.1.2.1
    refine x_X11_hurtBy_35 W.1 _ _ _ _ _ ⟨fun h => ?_, fun _ => W.2.1.2.2 q (by omega) d M o c _ (lik_refl _ _) W.1 ho hc (fun M1 L1 => ⟨L1.1.1, L1.1.2.1, _, rfl, fun g => ?_, fun g => ?_⟩)⟩
    · rw [W.2.1.1.2, w_le (by omega) (by omega)] at h; omega
    · rw [cnt_no (by simp [g])] at e
      rw [w_add1, Int32.add_zero]
      exact q_hurt_i hc ho s9 X k (q + 1) a M1 (wM_q (sc_q L1) W) (lik_trans L L1) (by omega) e
    · rw [cnt_yes (by simp [g])] at e
      rw [w_add1, w_add1]
      exact q_hurt_i hc ho s9 X k (q + 1) (a + 1) M1 (wM_q (sc_q L1) W) (lik_trans L L1) (by omega) (by omega)
def hbP (s c : Nat) : Nat → Bool := fun o => s.testBit o && !decide (o = c)
theorem q_hurt_o {d n N K c s : Nat} {f : Nat → Nat} {Bs : BB} {M0 : mx_M} {Q : QQ} (hc : c < N) (hs : s < 1024) (s9 : Nat) (hq : ∀ M1, wM M1 n N K f Bs → lik mSc M0 M1 → Q (.inl (some (.int (w s9)))) M1) :
    ∀ (k o a : Nat) (M : mx_M), wM M n N K f Bs → lik mSc M0 M → o + k = N → hsF (hbP s c) (htF K Bs c) o k a = s9 → mx_W m_X11_hurtBy (d + 4 + 1) 5 [.ref 58, .int (w c), .int (w s), .int (w a), .int (w o), .retAddr 0] [] M Q
  | 0, o, a, M, W, L, ho, e => by
    have hb := W.2.1.2.1
    have e : a = s9 := e
    subst e
    refine x_X11_hurtBy_5 W.1 _ _ _ _ ⟨fun _ => hq M W L, fun h => absurd ?_ h⟩
    rw [W.2.1.1.1, w_le (by omega) (by omega)]; omega
  | k + 1, o, a, M, W, L, ho, e => by
    have hb := W.2.1.2.1
    rw [hsF] at e
    refine x_X11_hurtBy_5 W.1 _ _ _ _ ⟨fun h => ?_, fun _ => ?_⟩
    · rw [W.2.1.1.1, w_le (by omega) (by omega)] at h; omega
    · rw [(bit_1 hs (show o < 10 by omega)).2, w_inj (by omega) (by omega), w_add1]
      refine ⟨fun g => ?_, fun g => ⟨fun g2 => ?_, fun g2 => ?_⟩⟩
      · rw [if_neg (by unfold hbP; rw [decide_eq_true g, Bool.not_true, Bool.and_false]; decide)] at e
        exact q_hurt_o hc hs s9 hq k (o + 1) a M W L (by omega) e
      · have g3 : s.testBit o = true := by
          cases h : s.testBit o
          · exact absurd h g2
          · rfl
        rw [if_pos (by unfold hbP; rw [decide_eq_false g, g3]; rfl)] at e
        exact q_hurt_i hc (by omega) (a + htF K Bs c o) (fun M1 W1 L1 => q_hurt_o hc hs s9 hq k (o + 1) _ M1 W1 L1 (by omega) e) K 0 a M W L (Nat.zero_add K) rfl
      · rw [if_neg (by unfold hbP; rw [g2, Bool.false_and]; decide)] at e
        exact q_hurt_o hc hs s9 hq k (o + 1) a M W L (by omega) e
theorem q_hurtBy {d n N K c s : Nat} {f : Nat → Nat} {Bs : BB} {M : mx_M} {Q : QQ} (W : wM M n N K f Bs) (hc : c < N) (hs : s < 1024) (hq : ∀ M1, wM M1 n N K f Bs → lik mSc M M1 → Q (.inl (some (.int (w (hsF (hbP s c) (htF K Bs c) 0 N 0))))) M1) : mx_W m_X11_hurtBy (d + 4 + 1) 0 [.ref 58, .int (w c), .int (w s), .retAddr 0, .retAddr 0, .retAddr 0] [] M Q :=
  x_X11_hurtBy_0 W.1 _ _ (q_hurt_o hc hs _ hq N 0 0 M W (lik_refl _ _) (Nat.zero_add N) rfl)
theorem hw_hb {N K : Nat} {Bs : BB} {g : Nat → Nat} {s c : Nat} : hsF (hbP s c) (htF K Bs c) 0 N 0 + g (rmv s c) = hwF N K Bs g s c := by
  unfold hwF
  rw [← hsF_add, Nat.zero_add]
  exact hsF_congr N 0 _ (fun j => (rmv_bit s c j).symm)
/-- what firstOf may write: of the table, the place s alone -/
abbrev mF (s : Nat) : Nat → Nat → Prop := fun k j => k = 88 ∨ k = 89 ∨ (k = 95 ∧ j = s)
theorem mF_q {s : Nat} {M M1 : mx_M} (h : lip (mF s) M M1) : lip mQ M M1 := lip_mono h (fun k j hk => by show _ ∨ _; rcases hk with h | h | h <;> omega)
theorem sc_mF {s : Nat} {M M1 : mx_M} (h : lik mSc M M1) : lip (mF s) M M1 := lip_of h (fun k j hk => by rcases hk with h | h; exact Or.inl h; exact Or.inr (Or.inl h))
def psP : PS → Int32
  | none => -1
  | some (_, b) => w b
theorem q_first_l {d n N K s : Nat} {f g : Nat → Nat} {Bs : BB} {M0 : mx_M} {Q : QQ} (hs : s < 1024) (G : gSm g s) (hg : ∀ q, q < s → mx_I M0 95 q = w (g q)) (z9 : PS)
    (hq : ∀ M1, wM M1 n N K f Bs → lip (mF s) M0 M1 → (∀ m b, z9 = some (m, b) → mx_I M1 95 s = w m) → Q (.inl (some (.int (psP z9)))) M1) :
    ∀ (k i : Nat) (z : PS) (M : mx_M), wM M n N K f Bs → lip (mF s) M0 M → i + k = N → psG N K Bs g s z → (∀ m b, z = some (m, b) → mx_I M 95 s = w m) → bfF N K Bs g s i k z = z9 → mx_W m_X11_firstOf (d + 4 + 1 + 1) 4 [.ref 58, .int (w s), .int (psP z), .int (w i), .retAddr 0] [] M Q
  | 0, i, z, M, W, L, hi, hz, c1, e => by
    have hb := W.2.1.2.1
    have e : z = z9 := e
    subst e
    refine x_X11_firstOf_4 W.1 _ _ _ ⟨fun _ => hq M W L c1, fun h => absurd ?_ h⟩
    rw [W.2.1.1.1, w_le (by omega) (by omega)]; omega
  | k + 1, i, z, M, W, L, hi, hz, c1, e => by
    have hb := W.2.1.2.1
    have r := rmv_w hs (show i < 10 by omega)
    rw [bfF] at e
    refine x_X11_firstOf_4 W.1 _ _ _ ⟨fun h => ?_, fun _ => ?_⟩
    · rw [W.2.1.1.1, w_le (by omega) (by omega)] at h; omega
    · rw [(bit_1 hs (show i < 10 by omega)).2, r.1, w_nat (n := rmv s i) (by omega), w_nat (n := s) (by omega), w_add1]
      refine ⟨fun y => ?_, fun y => ?_⟩
      · have y2 : s.testBit i = true := by
          cases h : s.testBit i
          · exact absurd h y
          · rfl
        rw [if_pos y2] at e
        have hle := hwF_le (N := N) (Bs := Bs) hb.1 hb.2 hs (show i < 10 by omega) y2 G
        refine q_hurtBy W (by omega) hs (fun M1 W1 L1 => ?_)
        have L1' : lip (mF s) M0 M1 := lip_trans L (sc_mF L1)
        have ev : mx_I M1 95 (rmv s i) = w (g (rmv s i)) := by
          rw [(L1'.2 95 (rmv s i) (fun z => by have := r.2.2 y2; rcases z with z | z | z <;> omega)).1]
          exact hg _ (r.2.2 y2)
        have d1 : ∀ m b, z = some (m, b) → mx_I M1 95 s = w m := fun m b h => by
          rw [(L1.2 95 (by intro z; rcases z with z | z <;> omega)).1]; exact c1 m b h
        refine ⟨L1.1.1, L1.1.2.1, _, rfl, w_in (by omega) (by omega), ?_⟩
        rw [ev, w_add, hw_hb]
        have set : ∀ M3, M3 = mx_setI M1 95 s (w (hwF N K Bs g s i)) → clS (hwF N K Bs g s i) i z = some (hwF N K Bs g s i, i) → mx_W m_X11_firstOf (d + 4 + 1 + 1) 4 [.ref 58, .int (w s), .int (w i), .int (w (i + 1)), .retAddr 0] [] M3 Q := by
          intro M3 e3 ez
          have L3 : lip (mF s) M1 M3 := by rw [e3]; exact lip_setI (Or.inr (Or.inr ⟨rfl, rfl⟩))
          have := q_first_l (d := d) hs G hg z9 hq k (i + 1) _ M3 (wM_q (mF_q L3) W1) (lip_trans L1' L3) (by omega) (psG_S (show i < N by omega) y2 hz) (fun m b h => by rw [ez] at h; cases h; rw [e3]; exact I_eq) e
          rw [ez] at this
          exact this
        cases z with
        | none => exact ⟨fun _ => ⟨w_in (by omega) (by omega), fun M3 e3 => set M3 e3 rfl⟩, fun q => absurd rfl q⟩
        | some q9 =>
          obtain ⟨m2, b2⟩ := q9
          have hz2 := hz m2 b2 rfl
          have hle2 := hwF_le (N := N) (Bs := Bs) hb.1 hb.2 hs (show b2 < 10 by omega) hz2.2.1 G
          rw [← hz2.2.2] at hle2
          rw [d1 m2 b2 rfl, w_lt (by omega) (by omega)]
          refine ⟨fun q => absurd q (w_ne1 (a := b2) (by omega)), fun _ => ⟨w_in (by omega) (by omega), fun q => ⟨w_in (by omega) (by omega), fun M4 e4 => set M4 e4 (by rw [clS, if_pos q])⟩, fun q => ?_⟩⟩
          rw [clS, if_neg q] at e
          exact q_first_l hs G hg z9 hq k (i + 1) _ M1 W1 L1' (by omega) hz d1 e
      · rw [if_neg (by rw [y]; decide)] at e
        exact q_first_l hs G hg z9 hq k (i + 1) z M W L (by omega) hz c1 e
theorem q_first {d n N K s : Nat} {f g : Nat → Nat} {Bs : BB} {M : mx_M} {Q : QQ} (W : wM M n N K f Bs) (hs : s < 2 ^ N) (h0 : ¬ s = 0) (G : gSm g s) (hg : ∀ q, q < s → mx_I M 95 q = w (g q))
    (hq : ∀ M1, wM M1 n N K f Bs → lip (mF s) M M1 → mx_I M1 95 s = w ((bfF N K Bs g s 0 N none).getD (0, 0)).1 → Q (.inl (some (.int (w (bcr N K Bs g s))))) M1) : mx_W m_X11_firstOf (d + 4 + 1 + 1) 0 [.ref 58, .int (w s), .retAddr 0, .retAddr 0, .retAddr 0] [] M Q := by
  have hb := W.2.1.2.1
  have hp := pow_N hb.1
  obtain ⟨m, b, eb, _, _, _⟩ := bf_is (N := N) (K := K) (Bs := Bs) g hs h0
  refine x_X11_firstOf_0 W.1 _ (q_first_l (by omega) G hg (bfF N K Bs g s 0 N none) (fun M1 W1 L1 c1 => ?_) N 0 none M W (lip_refl _ _) (Nat.zero_add N) (fun m b e => by cases e) (fun m b e => by cases e) rfl)
  have H := hq M1 W1 L1
  unfold bcr at H
  rw [eb] at H c1 ⊢
  exact H (c1 m b rfl)
theorem q_comp_a {d n N K : Nat} {v : Int32} {f : Nat → Nat} {Bs : BB} {M0 : mx_M} {Q : QQ} (g9 : Nat → Nat)
    (X : ∀ M1, wM M1 n N K f Bs → lip mQ M0 M1 → gSm g9 (2 ^ N) → (∀ q, q < 2 ^ N → mx_I M1 95 q = w (g9 q)) → ((¬ v = (-1 : Int32) → mx_W m_X11_compromise (d + 4 + 1 + 1 + 1) 92 [.ref 58, .int v, .retAddr 0, .int (w (2 ^ N - 1)), .int 0] [] M1 Q) ∧ (v = (-1 : Int32) → Q (.inl (some (.int (w (g9 (2 ^ N - 1)))))) M1))) :
    ∀ (k s : Nat) (g : Nat → Nat) (M : mx_M), wM M n N K f Bs → lip mQ M0 M → s + k = 2 ^ N → 1 ≤ s → gSm g s → (∀ q, q < s → mx_I M 95 q = w (g q)) → fwF N K Bs s k g = g9 → mx_W m_X11_compromise (d + 4 + 1 + 1 + 1) 51 [.ref 58, .int v, .int (w (2 ^ N - 1)), .int (w s), .retAddr 0] [] M Q
  | 0, s, g, M, W, L, hs, h1, G, hg, e => by
    have hb := W.2.1.2.1
    have hp := pow_N hb.1
    have e : g = g9 := e
    subst e
    have H := X M W L (fun q hq => G q (by omega)) (fun q hq => hg q (by omega))
    refine x_X11_compromise_51 W.1 _ _ _ ⟨fun _ => ⟨H.1, fun z => ⟨w_in (by omega) (by omega), ?_⟩⟩, fun h => absurd ?_ h⟩
    · rw [w_nat (by omega), hg _ (by omega)]; exact H.2 z
    · rw [w_lt (by omega) (by omega)]; omega
  | k + 1, s, g, M, W, L, hs, h1, G, hg, e => by
    have hb := W.2.1.2.1
    have hp := pow_N hb.1
    obtain ⟨m, b, eb, b1, b2, b3⟩ := bf_is (N := N) (K := K) (Bs := Bs) (s := s) g (by omega) (by omega)
    rw [fwF, fw_step eb, b3] at e
    refine x_X11_compromise_51 W.1 _ _ _ ⟨fun h => ?_, fun _ => ⟨w_in (by omega) (by omega), fun M1 e1 => ?_⟩⟩
    · rw [w_lt (by omega) (by omega)] at h; omega
    · rw [w_nat (by omega)] at e1
      have L1 : lip mQ M M1 := by rw [e1]; exact lip_setI (by show _ ∨ _; omega)
      have hg1 : ∀ q, q < s → mx_I M1 95 q = w (g q) := fun q hq => by rw [e1, I_ne (by omega)]; exact hg q hq
      refine q_first (wM_q L1 W) (by omega) (by omega) G hg1 (fun M2 W2 L2 c2 => ⟨L2.1.1, L2.1.2.1, _, rfl, ?_⟩)
      rw [w_add1]
      refine q_comp_a g9 X k (s + 1) _ M2 W2 (lip_trans L (lip_trans L1 (mF_q L2))) (by omega) (by omega) (gSm_set hb.1 hb.2 (by omega) b1 b2 G) (fun q hq => ?_) e
      by_cases y : q = s
      · rw [y, setF_eq, c2, eb, b3]; rfl
      · rw [setF_ne y, (L2.2 95 q (fun z => by rcases z with z | z | z <;> omega)).1]; exact hg1 q (by omega)
theorem q_comp_b {d n N K i0 : Nat} {f g : Nat → Nat} {Bs : BB} {M0 : mx_M} {Q : QQ} (h10 : N ≤ 10) (hi0 : i0 < N) (G : gSm g (2 ^ N)) (r9 : Nat)
    (gr : ∀ s, s < 2 ^ N → ¬ s = 0 → ((bfF N K Bs g s 0 N none).getD (0, 0)).1 = g s)
    (hq : ∀ M1, wM M1 n N K f Bs → lip mQ M0 M1 → Q (.inl (some (.int (w r9)))) M1) :
    ∀ (k i s : Nat) (M : mx_M), wM M n N K f Bs → lip mQ M0 M → i + k = N → i ≤ i0 → stK N s k → (∀ q, q < 2 ^ N → mx_I M 95 q = w (g q)) → rwF N K Bs g k s (i0 - i) = r9 → mx_W m_X11_compromise (d + 4 + 1 + 1 + 1) 92 [.ref 58, .int (w i0), .retAddr 0, .int (w s), .int (w i)] [] M Q
  | 0, i, s, M, W, L, hi, hi2, hs, hg, e => by omega
  | k + 1, i, s, M, W, L, hi, hi2, hs, hg, e => by
    have hp := pow_N h10
    have hs2 := hs.1
    obtain ⟨_, b1, b2⟩ := bcr_is (K := K) (Bs := Bs) g hs
    have r := rmv_w (show s < 1024 by omega) (show bcr N K Bs g s < 10 by omega)
    rw [rwF] at e
    refine x_X11_compromise_92 W.1 _ _ _ ⟨fun h => ?_, fun h => ?_⟩
    · rw [w_le (by omega) (by omega)] at h
      rw [if_pos (by omega)] at e
      refine q_first W hs2 (stK_0 hs) (fun q hq => G q (by omega)) (fun q hq => hg q (by omega)) (fun M1 W1 L1 c1 => ⟨L1.1.1, L1.1.2.1, _, rfl, ?_⟩)
      rw [e]
      exact hq M1 W1 (lip_trans L (mF_q L1))
    · rw [w_le (by omega) (by omega)] at h
      rw [if_neg (by omega)] at e
      refine q_first W hs2 (stK_0 hs) (fun q hq => G q (by omega)) (fun q hq => hg q (by omega)) (fun M1 W1 L1 c1 => ⟨L1.1.1, L1.1.2.1, _, rfl, ?_⟩)
      rw [r.1, w_add1]
      refine q_comp_b h10 hi0 G r9 gr hq k (i + 1) _ M1 W1 (lip_trans L (mF_q L1)) (by omega) (by omega) (stK_rm h10 hs b1 b2) (fun q hq => ?_) (by rw [show i0 - (i + 1) = i0 - i - 1 by omega]; exact e)
      by_cases y : q = s
      · rw [y, c1, gr s hs2 (stK_0 hs)]
      · rw [(L1.2 95 q (fun z => by rcases z with z | z | z <;> omega)).1]; exact hg q hq
/-- a set's best does not read what larger sets have -/
theorem hwF_ext {N K s c : Nat} {Bs : BB} {g g2 : Nat → Nat} (hs : s < 1024) (hc : c < 10) (ht : s.testBit c = true) (e : ∀ q, q < s → g q = g2 q) : hwF N K Bs g s c = hwF N K Bs g2 s c := by
  unfold hwF
  rw [e _ ((rmv_w hs hc).2.2 ht)]
theorem bfF_ext {N K s : Nat} {Bs : BB} {g g2 : Nat → Nat} (hN : N ≤ 10) (hs : s < 1024) (e : ∀ q, q < s → g q = g2 q) : ∀ (k i : Nat) (z : PS), i + k = N → bfF N K Bs g s i k z = bfF N K Bs g2 s i k z
  | 0, i, z, _ => rfl
  | k + 1, i, z, hi => by
    rw [bfF, bfF]
    by_cases h : s.testBit i = true
    · rw [if_pos h, if_pos h, hwF_ext hs (by omega) h e]; exact bfF_ext hN hs e k (i + 1) _ (by omega)
    · rw [if_neg h, if_neg h]; exact bfF_ext hN hs e k (i + 1) _ (by omega)
theorem fwF_low {N K : Nat} {Bs : BB} : ∀ (k s : Nat) (g : Nat → Nat) (q : Nat), q < s → fwF N K Bs s k g q = g q
  | 0, s, g, q, _ => rfl
  | k + 1, s, g, q, h => by rw [fwF, fwF_low k (s + 1) _ q (by omega)]; exact setF_ne (by omega)
theorem fwF_is {N K : Nat} {Bs : BB} (hN : N ≤ 10) : ∀ (k s : Nat) (g : Nat → Nat) (q : Nat), s + k ≤ 1024 → s ≤ q → q < s + k → ((bfF N K Bs (fwF N K Bs s k g) q 0 N none).getD (0, 0)).1 = fwF N K Bs s k g q
  | 0, s, g, q, _, h1, h2 => by omega
  | k + 1, s, g, q, h0, h1, h2 => by
    rw [fwF]
    by_cases e : q = s
    · rw [e, fwF_low k (s + 1) _ s (by omega), setF_eq]
      rw [bfF_ext hN (by omega) (g2 := g) (fun x hx => by rw [fwF_low k (s + 1) _ x (by omega)]; exact setF_ne (by omega)) N 0 none (Nat.zero_add N)]
    · exact fwF_is hN k (s + 1) _ q (by omega) (by omega) (by omega)
theorem q_compromise {d n N K : Nat} {v : Int32} {f : Nat → Nat} {Bs : BB} {M : mx_M} {Q : QQ} (W : wM M n N K f Bs)
    (h1 : v = -1 → ∀ M1, wM M1 n N K f Bs → lip mQ (mx_setI M 58 0 0) M1 → Q (.inl (some (.int (w (fwA N K Bs (2 ^ N - 1)))))) M1)
    (h3 : ∀ i, i < N → v = w i → ∀ M1, wM M1 n N K f Bs → lip mQ (mx_setI M 58 0 0) M1 → Q (.inl (some (.int (w (cpR N K Bs i))))) M1)
    (h2 : ¬ (v = -1 ∨ isIn v N) → Q (.inl (some (.int 0))) (mx_setI (mx_setI M 58 0 0) 58 0 1)) : mx_W m_X11_compromise (d + 4 + 1 + 1 + 1) 0 [.ref 58, .int v, .retAddr 0, .retAddr 0, .retAddr 0] [] M Q :=
  x_X11_compromise_0 W.1 _ (fun M1 e1 => by
    subst e1
    have W1 := wM_0 (v := 0) W
    have hb := W1.2.1.2.1
    have hp := pow_N hb.1
    have h9 := Nat.one_le_two_pow (n := N)
    rw [W1.2.1.1.1]
    refine ⟨fun z => p_rightF W1.1 I_eq (by decide) ⟨rfl, rfl, _, rfl, fun q => (by cases q), fun _ => h2 (fun y => ?_)⟩, fun z => ⟨fun z2 => p_rightF W1.1 I_eq (by decide) ⟨rfl, rfl, _, rfl, fun q => (by cases q), fun _ => h2 (fun y => ?_)⟩, fun z2 => p_rightT W1.1 I_eq ⟨rfl, rfl, _, rfl, fun _ M4 e4 => ?_, fun q => (by cases q)⟩⟩⟩
    · rcases y with y | y
      · exact (m1_neg z).2 y
      · exact isIn_neg (by omega) (m1_neg z).1 y
    · rcases y with y | y
      · rw [y] at z2; exact absurd (m1_w (q := N) (by omega)) (Int32.not_lt.mpr z2)
      · exact isIn_big (by omega) (Int32.not_lt.mpr z2) y
    · have L4 : lip mQ (mx_setI M 58 0 0) M4 := by rw [e4]; exact lip_setI (by show _ ∨ _; omega)
      have W4 := wM_q L4 W1
      rw [W4.2.1.1.1, shl_N hb.1, show w (2 ^ N) - 1 = w (2 ^ N - 1) from w_sub (a := 2 ^ N) (b := 1) h9]
      refine q_comp_a (fwA N K Bs) (fun M2 W2 L2 G2 c2 => ⟨fun y => ?_, fun y => h1 y M2 W2 L2⟩) (2 ^ N - 1) 1 (fun _ => 0) M4 W4 L4 (by omega) (Nat.le_refl _) (fun q hq => by show 0 ≤ _; omega) (fun q hq => by rw [e4, show q = 0 by omega]; exact I_eq) rfl
      obtain ⟨i, hi, rfl⟩ := isIn_of (by omega) (m1_nn z y) (Int32.not_le.mp z2)
      exact q_comp_b hb.1 hi G2 (cpR N K Bs i) (fun s a1 a2 => fwF_is hb.1 (2 ^ N - 1) 1 (fun _ => 0) s (by omega) (by omega) (by omega)) (fun M3 W3 L3 => h3 i hi rfl M3 W3 (lip_trans L2 L3)) N 0 _ M2 W2 (lip_refl _ _) (Nat.zero_add N) (Nat.zero_le _) (stK_all N) c2 rfl)
