/-! words that the reference knows -/
def wlN (k : Nat) : Nat := nm (fun i => wlC k i - 96) (wlL k)
theorem q_let_0 {d : Nat} {M : mx_M} {Q : QQ} (T : mx_Tp M) (hq : Q (.inl (some (.long (u64 (wlN 0))))) M) : mx_W m_X11_letters (d + 1) 0 [.int 0] [] M Q := by
  have key : ∀ v : Int64, v = u64 (wlN 0) → Q (.inl (some (.long v))) M := fun v e => by rw [e]; exact hq
  refine x_X11_letters_0 T _ ⟨fun _ => ?_, fun z => absurd z (by decide), fun z => absurd z (by decide), fun z => absurd z (by decide), fun z => absurd z (by decide), fun z => absurd z (by decide), fun z => absurd z (by decide), fun z => absurd z (by decide), fun z => absurd z (by decide), fun z => absurd z (by decide), fun z => absurd z (by decide), fun z => absurd z (by decide), fun z => absurd z (by decide), fun z => absurd z (by decide), fun z _ _ _ _ _ _ _ _ _ _ _ _ _ => absurd rfl z⟩
  refine x_X11_spelled_0 T _ _ _ _ _ _ _ ?_
  repeat (first | refine ⟨fun z => absurd z (by decide), fun _ => ?_⟩ | refine ⟨fun _ => ?_, fun z => absurd (by decide) z⟩)
  exact ⟨rfl, rfl, _, rfl, key _ (by decide)⟩
theorem q_let_1 {d : Nat} {M : mx_M} {Q : QQ} (T : mx_Tp M) (hq : Q (.inl (some (.long (u64 (wlN 1))))) M) : mx_W m_X11_letters (d + 1) 0 [.int 1] [] M Q := by
  have key : ∀ v : Int64, v = u64 (wlN 1) → Q (.inl (some (.long v))) M := fun v e => by rw [e]; exact hq
  refine x_X11_letters_0 T _ ⟨fun z => absurd z (by decide), fun _ => ?_, fun z => absurd z (by decide), fun z => absurd z (by decide), fun z => absurd z (by decide), fun z => absurd z (by decide), fun z => absurd z (by decide), fun z => absurd z (by decide), fun z => absurd z (by decide), fun z => absurd z (by decide), fun z => absurd z (by decide), fun z => absurd z (by decide), fun z => absurd z (by decide), fun z => absurd z (by decide), fun _ z _ _ _ _ _ _ _ _ _ _ _ _ => absurd rfl z⟩
  refine x_X11_spelled_0 T _ _ _ _ _ _ _ ?_
  repeat (first | refine ⟨fun z => absurd z (by decide), fun _ => ?_⟩ | refine ⟨fun _ => ?_, fun z => absurd (by decide) z⟩)
  exact ⟨rfl, rfl, _, rfl, key _ (by decide)⟩
theorem q_let_2 {d : Nat} {M : mx_M} {Q : QQ} (T : mx_Tp M) (hq : Q (.inl (some (.long (u64 (wlN 2))))) M) : mx_W m_X11_letters (d + 1) 0 [.int 2] [] M Q := by
  have key : ∀ v : Int64, v = u64 (wlN 2) → Q (.inl (some (.long v))) M := fun v e => by rw [e]; exact hq
  refine x_X11_letters_0 T _ ⟨fun z => absurd z (by decide), fun z => absurd z (by decide), fun _ => ?_, fun z => absurd z (by decide), fun z => absurd z (by decide), fun z => absurd z (by decide), fun z => absurd z (by decide), fun z => absurd z (by decide), fun z => absurd z (by decide), fun z => absurd z (by decide), fun z => absurd z (by decide), fun z => absurd z (by decide), fun z => absurd z (by decide), fun z => absurd z (by decide), fun _ _ z _ _ _ _ _ _ _ _ _ _ _ => absurd rfl z⟩
  refine x_X11_spelled_0 T _ _ _ _ _ _ _ ?_
  repeat (first | refine ⟨fun z => absurd z (by decide), fun _ => ?_⟩ | refine ⟨fun _ => ?_, fun z => absurd (by decide) z⟩)
  exact ⟨rfl, rfl, _, rfl, key _ (by decide)⟩
theorem q_let_3 {d : Nat} {M : mx_M} {Q : QQ} (T : mx_Tp M) (hq : Q (.inl (some (.long (u64 (wlN 3))))) M) : mx_W m_X11_letters (d + 1) 0 [.int 3] [] M Q := by
  have key : ∀ v : Int64, v = u64 (wlN 3) → Q (.inl (some (.long v))) M := fun v e => by rw [e]; exact hq
  refine x_X11_letters_0 T _ ⟨fun z => absurd z (by decide), fun z => absurd z (by decide), fun z => absurd z (by decide), fun _ => ?_, fun z => absurd z (by decide), fun z => absurd z (by decide), fun z => absurd z (by decide), fun z => absurd z (by decide), fun z => absurd z (by decide), fun z => absurd z (by decide), fun z => absurd z (by decide), fun z => absurd z (by decide), fun z => absurd z (by decide), fun z => absurd z (by decide), fun _ _ _ z _ _ _ _ _ _ _ _ _ _ => absurd rfl z⟩
  refine x_X11_spelled_0 T _ _ _ _ _ _ _ ?_
  repeat (first | refine ⟨fun z => absurd z (by decide), fun _ => ?_⟩ | refine ⟨fun _ => ?_, fun z => absurd (by decide) z⟩)
  exact ⟨rfl, rfl, _, rfl, key _ (by decide)⟩
theorem q_let_4 {d : Nat} {M : mx_M} {Q : QQ} (T : mx_Tp M) (hq : Q (.inl (some (.long (u64 (wlN 4))))) M) : mx_W m_X11_letters (d + 1) 0 [.int 4] [] M Q := by
  have key : ∀ v : Int64, v = u64 (wlN 4) → Q (.inl (some (.long v))) M := fun v e => by rw [e]; exact hq
  refine x_X11_letters_0 T _ ⟨fun z => absurd z (by decide), fun z => absurd z (by decide), fun z => absurd z (by decide), fun z => absurd z (by decide), fun _ => ?_, fun z => absurd z (by decide), fun z => absurd z (by decide), fun z => absurd z (by decide), fun z => absurd z (by decide), fun z => absurd z (by decide), fun z => absurd z (by decide), fun z => absurd z (by decide), fun z => absurd z (by decide), fun z => absurd z (by decide), fun _ _ _ _ z _ _ _ _ _ _ _ _ _ => absurd rfl z⟩
  refine x_X11_spelled_0 T _ _ _ _ _ _ _ ?_
  repeat (first | refine ⟨fun z => absurd z (by decide), fun _ => ?_⟩ | refine ⟨fun _ => ?_, fun z => absurd (by decide) z⟩)
  exact ⟨rfl, rfl, _, rfl, key _ (by decide)⟩
theorem q_let_5 {d : Nat} {M : mx_M} {Q : QQ} (T : mx_Tp M) (hq : Q (.inl (some (.long (u64 (wlN 5))))) M) : mx_W m_X11_letters (d + 1) 0 [.int 5] [] M Q := by
  have key : ∀ v : Int64, v = u64 (wlN 5) → Q (.inl (some (.long v))) M := fun v e => by rw [e]; exact hq
  refine x_X11_letters_0 T _ ⟨fun z => absurd z (by decide), fun z => absurd z (by decide), fun z => absurd z (by decide), fun z => absurd z (by decide), fun z => absurd z (by decide), fun _ => ?_, fun z => absurd z (by decide), fun z => absurd z (by decide), fun z => absurd z (by decide), fun z => absurd z (by decide), fun z => absurd z (by decide), fun z => absurd z (by decide), fun z => absurd z (by decide), fun z => absurd z (by decide), fun _ _ _ _ _ z _ _ _ _ _ _ _ _ => absurd rfl z⟩
  refine x_X11_spelled_0 T _ _ _ _ _ _ _ ?_
  repeat (first | refine ⟨fun z => absurd z (by decide), fun _ => ?_⟩ | refine ⟨fun _ => ?_, fun z => absurd (by decide) z⟩)
  exact ⟨rfl, rfl, _, rfl, key _ (by decide)⟩
theorem q_let_6 {d : Nat} {M : mx_M} {Q : QQ} (T : mx_Tp M) (hq : Q (.inl (some (.long (u64 (wlN 6))))) M) : mx_W m_X11_letters (d + 1) 0 [.int 6] [] M Q := by
  have key : ∀ v : Int64, v = u64 (wlN 6) → Q (.inl (some (.long v))) M := fun v e => by rw [e]; exact hq
  refine x_X11_letters_0 T _ ⟨fun z => absurd z (by decide), fun z => absurd z (by decide), fun z => absurd z (by decide), fun z => absurd z (by decide), fun z => absurd z (by decide), fun z => absurd z (by decide), fun _ => ?_, fun z => absurd z (by decide), fun z => absurd z (by decide), fun z => absurd z (by decide), fun z => absurd z (by decide), fun z => absurd z (by decide), fun z => absurd z (by decide), fun z => absurd z (by decide), fun _ _ _ _ _ _ z _ _ _ _ _ _ _ => absurd rfl z⟩
  refine x_X11_spelled_0 T _ _ _ _ _ _ _ ?_
  repeat (first | refine ⟨fun z => absurd z (by decide), fun _ => ?_⟩ | refine ⟨fun _ => ?_, fun z => absurd (by decide) z⟩)
  exact ⟨rfl, rfl, _, rfl, key _ (by decide)⟩
theorem q_let_7 {d : Nat} {M : mx_M} {Q : QQ} (T : mx_Tp M) (hq : Q (.inl (some (.long (u64 (wlN 7))))) M) : mx_W m_X11_letters (d + 1) 0 [.int 7] [] M Q := by
  have key : ∀ v : Int64, v = u64 (wlN 7) → Q (.inl (some (.long v))) M := fun v e => by rw [e]; exact hq
  refine x_X11_letters_0 T _ ⟨fun z => absurd z (by decide), fun z => absurd z (by decide), fun z => absurd z (by decide), fun z => absurd z (by decide), fun z => absurd z (by decide), fun z => absurd z (by decide), fun z => absurd z (by decide), fun _ => ?_, fun z => absurd z (by decide), fun z => absurd z (by decide), fun z => absurd z (by decide), fun z => absurd z (by decide), fun z => absurd z (by decide), fun z => absurd z (by decide), fun _ _ _ _ _ _ _ z _ _ _ _ _ _ => absurd rfl z⟩
  refine x_X11_spelled_0 T _ _ _ _ _ _ _ ?_
  repeat (first | refine ⟨fun z => absurd z (by decide), fun _ => ?_⟩ | refine ⟨fun _ => ?_, fun z => absurd (by decide) z⟩)
  exact ⟨rfl, rfl, _, rfl, key _ (by decide)⟩
theorem q_let_8 {d : Nat} {M : mx_M} {Q : QQ} (T : mx_Tp M) (hq : Q (.inl (some (.long (u64 (wlN 8))))) M) : mx_W m_X11_letters (d + 1) 0 [.int 8] [] M Q := by
  have key : ∀ v : Int64, v = u64 (wlN 8) → Q (.inl (some (.long v))) M := fun v e => by rw [e]; exact hq
  refine x_X11_letters_0 T _ ⟨fun z => absurd z (by decide), fun z => absurd z (by decide), fun z => absurd z (by decide), fun z => absurd z (by decide), fun z => absurd z (by decide), fun z => absurd z (by decide), fun z => absurd z (by decide), fun z => absurd z (by decide), fun _ => ?_, fun z => absurd z (by decide), fun z => absurd z (by decide), fun z => absurd z (by decide), fun z => absurd z (by decide), fun z => absurd z (by decide), fun _ _ _ _ _ _ _ _ z _ _ _ _ _ => absurd rfl z⟩
  refine x_X11_spelled_0 T _ _ _ _ _ _ _ ?_
  repeat (first | refine ⟨fun z => absurd z (by decide), fun _ => ?_⟩ | refine ⟨fun _ => ?_, fun z => absurd (by decide) z⟩)
  exact ⟨rfl, rfl, _, rfl, key _ (by decide)⟩
theorem q_let_9 {d : Nat} {M : mx_M} {Q : QQ} (T : mx_Tp M) (hq : Q (.inl (some (.long (u64 (wlN 9))))) M) : mx_W m_X11_letters (d + 1) 0 [.int 9] [] M Q := by
  have key : ∀ v : Int64, v = u64 (wlN 9) → Q (.inl (some (.long v))) M := fun v e => by rw [e]; exact hq
  refine x_X11_letters_0 T _ ⟨fun z => absurd z (by decide), fun z => absurd z (by decide), fun z => absurd z (by decide), fun z => absurd z (by decide), fun z => absurd z (by decide), fun z => absurd z (by decide), fun z => absurd z (by decide), fun z => absurd z (by decide), fun z => absurd z (by decide), fun _ => ?_, fun z => absurd z (by decide), fun z => absurd z (by decide), fun z => absurd z (by decide), fun z => absurd z (by decide), fun _ _ _ _ _ _ _ _ _ z _ _ _ _ => absurd rfl z⟩
  refine x_X11_spelled_0 T _ _ _ _ _ _ _ ?_
  repeat (first | refine ⟨fun z => absurd z (by decide), fun _ => ?_⟩ | refine ⟨fun _ => ?_, fun z => absurd (by decide) z⟩)
  exact ⟨rfl, rfl, _, rfl, key _ (by decide)⟩
theorem q_let_10 {d : Nat} {M : mx_M} {Q : QQ} (T : mx_Tp M) (hq : Q (.inl (some (.long (u64 (wlN 10))))) M) : mx_W m_X11_letters (d + 1) 0 [.int 10] [] M Q := by
  have key : ∀ v : Int64, v = u64 (wlN 10) → Q (.inl (some (.long v))) M := fun v e => by rw [e]; exact hq
  refine x_X11_letters_0 T _ ⟨fun z => absurd z (by decide), fun z => absurd z (by decide), fun z => absurd z (by decide), fun z => absurd z (by decide), fun z => absurd z (by decide), fun z => absurd z (by decide), fun z => absurd z (by decide), fun z => absurd z (by decide), fun z => absurd z (by decide), fun z => absurd z (by decide), fun _ => ?_, fun z => absurd z (by decide), fun z => absurd z (by decide), fun z => absurd z (by decide), fun _ _ _ _ _ _ _ _ _ _ z _ _ _ => absurd rfl z⟩
  refine x_X11_spelled_0 T _ _ _ _ _ _ _ ?_
  repeat (first | refine ⟨fun z => absurd z (by decide), fun _ => ?_⟩ | refine ⟨fun _ => ?_, fun z => absurd (by decide) z⟩)
  exact ⟨rfl, rfl, _, rfl, key _ (by decide)⟩
theorem q_let_11 {d : Nat} {M : mx_M} {Q : QQ} (T : mx_Tp M) (hq : Q (.inl (some (.long (u64 (wlN 11))))) M) : mx_W m_X11_letters (d + 1) 0 [.int 11] [] M Q := by
  have key : ∀ v : Int64, v = u64 (wlN 11) → Q (.inl (some (.long v))) M := fun v e => by rw [e]; exact hq
  refine x_X11_letters_0 T _ ⟨fun z => absurd z (by decide), fun z => absurd z (by decide), fun z => absurd z (by decide), fun z => absurd z (by decide), fun z => absurd z (by decide), fun z => absurd z (by decide), fun z => absurd z (by decide), fun z => absurd z (by decide), fun z => absurd z (by decide), fun z => absurd z (by decide), fun z => absurd z (by decide), fun _ => ?_, fun z => absurd z (by decide), fun z => absurd z (by decide), fun _ _ _ _ _ _ _ _ _ _ _ z _ _ => absurd rfl z⟩
  refine x_X11_spelled_0 T _ _ _ _ _ _ _ ?_
  repeat (first | refine ⟨fun z => absurd z (by decide), fun _ => ?_⟩ | refine ⟨fun _ => ?_, fun z => absurd (by decide) z⟩)
  exact ⟨rfl, rfl, _, rfl, key _ (by decide)⟩
theorem q_let_12 {d : Nat} {M : mx_M} {Q : QQ} (T : mx_Tp M) (hq : Q (.inl (some (.long (u64 (wlN 12))))) M) : mx_W m_X11_letters (d + 1) 0 [.int 12] [] M Q := by
  have key : ∀ v : Int64, v = u64 (wlN 12) → Q (.inl (some (.long v))) M := fun v e => by rw [e]; exact hq
  refine x_X11_letters_0 T _ ⟨fun z => absurd z (by decide), fun z => absurd z (by decide), fun z => absurd z (by decide), fun z => absurd z (by decide), fun z => absurd z (by decide), fun z => absurd z (by decide), fun z => absurd z (by decide), fun z => absurd z (by decide), fun z => absurd z (by decide), fun z => absurd z (by decide), fun z => absurd z (by decide), fun z => absurd z (by decide), fun _ => ?_, fun z => absurd z (by decide), fun _ _ _ _ _ _ _ _ _ _ _ _ z _ => absurd rfl z⟩
  refine x_X11_spelled_0 T _ _ _ _ _ _ _ ?_
  repeat (first | refine ⟨fun z => absurd z (by decide), fun _ => ?_⟩ | refine ⟨fun _ => ?_, fun z => absurd (by decide) z⟩)
  exact ⟨rfl, rfl, _, rfl, key _ (by decide)⟩
theorem q_let_13 {d : Nat} {M : mx_M} {Q : QQ} (T : mx_Tp M) (hq : Q (.inl (some (.long (u64 (wlN 13))))) M) : mx_W m_X11_letters (d + 1) 0 [.int 13] [] M Q := by
  have key : ∀ v : Int64, v = u64 (wlN 13) → Q (.inl (some (.long v))) M := fun v e => by rw [e]; exact hq
  refine x_X11_letters_0 T _ ⟨fun z => absurd z (by decide), fun z => absurd z (by decide), fun z => absurd z (by decide), fun z => absurd z (by decide), fun z => absurd z (by decide), fun z => absurd z (by decide), fun z => absurd z (by decide), fun z => absurd z (by decide), fun z => absurd z (by decide), fun z => absurd z (by decide), fun z => absurd z (by decide), fun z => absurd z (by decide), fun z => absurd z (by decide), fun _ => ?_, fun _ _ _ _ _ _ _ _ _ _ _ _ _ z => absurd rfl z⟩
  refine x_X11_spelled_0 T _ _ _ _ _ _ _ ?_
  repeat (first | refine ⟨fun z => absurd z (by decide), fun _ => ?_⟩ | refine ⟨fun _ => ?_, fun z => absurd (by decide) z⟩)
  exact ⟨rfl, rfl, _, rfl, key _ (by decide)⟩
theorem q_let_14 {d : Nat} {M : mx_M} {Q : QQ} (T : mx_Tp M) (hq : Q (.inl (some (.long (u64 (wlN 14))))) M) : mx_W m_X11_letters (d + 1) 0 [.int 14] [] M Q := by
  have key : ∀ v : Int64, v = u64 (wlN 14) → Q (.inl (some (.long v))) M := fun v e => by rw [e]; exact hq
  refine x_X11_letters_0 T _ ⟨fun z => absurd z (by decide), fun z => absurd z (by decide), fun z => absurd z (by decide), fun z => absurd z (by decide), fun z => absurd z (by decide), fun z => absurd z (by decide), fun z => absurd z (by decide), fun z => absurd z (by decide), fun z => absurd z (by decide), fun z => absurd z (by decide), fun z => absurd z (by decide), fun z => absurd z (by decide), fun z => absurd z (by decide), fun z => absurd z (by decide), fun _ _ _ _ _ _ _ _ _ _ _ _ _ _ => ?_⟩
  refine x_X11_spelled_0 T _ _ _ _ _ _ _ ?_
  repeat (first | refine ⟨fun z => absurd z (by decide), fun _ => ?_⟩ | refine ⟨fun _ => ?_, fun z => absurd (by decide) z⟩)
  exact ⟨rfl, rfl, _, rfl, key _ (by decide)⟩
theorem q_let {d k : Nat} {M : mx_M} {Q : QQ} (T : mx_Tp M) (hk : k < 15) (hq : Q (.inl (some (.long (u64 (wlN k))))) M) : mx_W m_X11_letters (d + 1) 0 [.int (w k)] [] M Q := by
  rcases (show k = 0 ∨ k = 1 ∨ k = 2 ∨ k = 3 ∨ k = 4 ∨ k = 5 ∨ k = 6 ∨ k = 7 ∨ k = 8 ∨ k = 9 ∨ k = 10 ∨ k = 11 ∨ k = 12 ∨ k = 13 ∨ k = 14 by omega) with rfl | rfl | rfl | rfl | rfl | rfl | rfl | rfl | rfl | rfl | rfl | rfl | rfl | rfl | rfl
  · exact q_let_0 T hq
  · exact q_let_1 T hq
  · exact q_let_2 T hq
  · exact q_let_3 T hq
  · exact q_let_4 T hq
  · exact q_let_5 T hq
  · exact q_let_6 T hq
  · exact q_let_7 T hq
  · exact q_let_8 T hq
  · exact q_let_9 T hq
  · exact q_let_10 T hq
  · exact q_let_11 T hq
  · exact q_let_12 T hq
  · exact q_let_13 T hq
  · exact q_let_14 T hq
theorem wl_wrd {k : Nat} (hk : k < 15) : wrd (wlL k) (fun i => wlC k i - 96) := by
  have h := wl_k k hk
  have c := wl_c k hk
  have z : ∀ i, wlL k ≤ i → wlC k i = 0 := fun i hi => by
    unfold wlC
    rw [List.getD_eq_getElem?_getD, List.getElem?_eq_none hi]; rfl
  refine ⟨⟨by omega, by omega⟩, fun i => ?_, fun i => ⟨fun hi => ?_, fun hi => ?_⟩⟩
  · rcases Nat.lt_or_ge i (wlL k) with g | g
    · have := (c i g).2; show wlC k i - 96 < 32; omega
    · show wlC k i - 96 < 32; rw [z i g]; decide
  · have := (c i hi).2; show 1 ≤ wlC k i - 96; omega
  · show wlC k i - 96 = 0; rw [z i hi]
theorem isw_num {X : TX} {q k : Nat} (hk : k < 15) (h1 : knd X q = 1) (h8 : sz X q ≤ 8) : u64 (wlN k) = u64 (nm (lt8 X q) (m8 (sz X q))) ↔ isw X q k = true := by
  have W := lt8_wrd h1 h8
  have V := wl_wrd hk
  have e8 : m8 (sz X q) = sz X q := if_pos h8
  have n1 := nm_40 W.2.1 h8
  have n2 := nm_40 V.2.1 V.1.2
  have hq := knd_lt (X := X) (q := q) (by omega)
  have hs : sz X q = wend X q - q := by have hk := knd_cases hq; rcases hk with k | k | k | k <;> omega
  have c := wl_c k hk
  rw [e8]
  unfold wlN
  rw [u_inj (by omega) (by omega), (wrd_same V W).2]
  constructor
  · intro h
    refine decide_eq_true ⟨h1, h.1.symm, fun i hi => ?_⟩
    have e := h.2 i
    have l := isL_iff.mp (wend_is (X := X) (q := q) (i := q + i) (by omega) (by omega))
    have cc := (c i hi).2
    have g : lt8 X q i = X.1 (q + i) - 96 := by unfold lt8; rw [if_pos (by omega)]
    rw [g] at e
    have e : wlC k i - 96 = X.1 (q + i) - 96 := e
    omega
  · intro h
    have h := of_decide_eq_true h
    refine ⟨h.2.1.symm, fun i => ?_⟩
    rcases Nat.lt_or_ge i (wlL k) with g | g
    · have e := h.2.2 i g
      have g : lt8 X q i = X.1 (q + i) - 96 := by unfold lt8; rw [if_pos (by omega)]
      rw [g, e]
    · rw [(W.2.2 i).2 (by omega)]
      exact (V.2.2 i).2 g
theorem q_known_l {d : Nat} {X : TX} {q : Nat} {M : mx_M} {Q : QQ} (T : mx_Tp M) (A : tkM M X q) (h1 : knd X q = 1) (h8 : sz X q ≤ 8) (hq : Q (.inl (some (.int (fz 15 (kw X q))))) M) :
    ∀ (c k : Nat), k + c = 15 → kw X q = fnd (isw X q) k c → mx_W m_X11_knownWord (d + 2) 21 [.ref 58, .int (w k)] [] M Q
  | 0, k, hc, hf => by
    refine x_X11_knownWord_21 (d := d + 1) T _ ⟨fun _ => ?_, fun z => ?_⟩
    · rw [hf, fz_ge (by rw [fnd]; omega)] at hq; exact hq
    · rw [show (15 : Int32) = w 15 from rfl, w_le (by omega) (by omega)] at z; omega
  | c + 1, k, hc, hf => by
    have s := isw_num (X := X) (q := q) (k := k) (by omega) h1 h8
    refine x_X11_knownWord_21 (d := d + 1) T _ ⟨fun z => ?_, fun _ => q_let T (by omega) ⟨rfl, rfl, _, rfl, ?_⟩⟩
    · rw [show (15 : Int32) = w 15 from rfl, w_le (by omega) (by omega)] at z; omega
    rw [A.2.1 h1, s, w_add1]
    refine ⟨fun z => q_known_l T A h1 h8 hq c (k + 1) (by omega) (by rw [hf]; exact fnd_next z), fun z => ?_⟩
    rw [hf, fnd_stop z, fz_lt (by omega)] at hq; exact hq
theorem q_known {d : Nat} {X : TX} {q : Nat} {M : mx_M} {Q : QQ} (T : mx_Tp M) (A : tkM M X q) (hq : Q (.inl (some (.int (fz 15 (kw X q))))) M) : mx_W m_X11_knownWord (d + 2) 0 [.ref 58, .retAddr 0] [] M Q := by
  have hkd := tkM_kd (X := X) (q := q)
  have s := sz_le X A.2.2.2.2.2
  have h7 := A.2.2.2.2.1.2.1
  have no : ¬ (knd X q = 1 ∧ sz X q ≤ 8) → Q (.inl (some (.int (-1)))) M := fun z => by
    have e : 15 ≤ kw X q := by
      rcases Nat.lt_or_ge (kw X q) 15 with g | g
      · have h := of_decide_eq_true ((kw_iff g).mpr rfl)
        have h2 := wl_k _ g
        exact absurd ⟨h.1, by omega⟩ z
      · exact g
    rw [fz_ge e] at hq; exact hq
  refine x_X11_knownWord_0 (d := d + 1) T ?_
  rw [A.1.2.1, A.1.2.2.2, show (1 : Int32) = w 1 from rfl, show (8 : Int32) = w 8 from rfl, w_inj (by omega) (by omega), w_le (by omega) (by omega)]
  exact ⟨fun z => no (fun y => z y.1), fun z => ⟨fun y => q_known_l T A z y hq 15 0 rfl rfl, fun y => no (fun x => y x.2)⟩⟩
