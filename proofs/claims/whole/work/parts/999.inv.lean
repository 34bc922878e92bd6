/-! what holds between two calls -/
abbrev AQ := Nat × (Nat → Nat) × (Nat → Nat → Nat)
abbrev IQ := Bool × (Nat × (Nat → Nat)) × AQ
abbrev NF := Nat × (Nat → Nat)
abbrev ZQ := Int32 × Int32 × Int32
def uC (M : mx_M) (t u : Nat) : Prop := mx_Cat u ∧ mx_R M 2 2 = u ∧ ¬ u = t
def styC (M : mx_M) (S : NF) : Prop := mx_I M 1 11 = w S.1 ∧ ∀ i, i < S.1 → mx_I M 43 i = w (S.2 i)
def cntC (M : mx_M) (Z : ZQ) : Prop := mx_I M 1 14 = Z.1 ∧ mx_I M 1 15 = Z.2.1 ∧ mx_I M 1 16 = Z.2.2
def IR (M : mx_M) (t u : Nat) (X : TX) (c : CD) (A : AQ) (I : IQ) (S Y : NF) (Z : ZQ) : Prop := uC M t u ∧ CDC M t X c ∧ kyC M (dN c) (dK c) (klX X c) (ksX X c) ∧ actC M 35 A.1 (dN c) A.2.1 A.2.2 ∧ imgC M (dN c) I.1 I.2.1.1 I.2.1.2 I.2.2.1 I.2.2.2.1 I.2.2.2.2 ∧ setC M (dN c) (dK c) (bsX X c) ∧ styC M S ∧ tpC M Y.1 Y.2 ∧ cntC M Z
def IC (M : mx_M) (t u : Nat) (X : TX) (c : CD) (n : Nat) (f : Nat → Nat) (A : AQ) (I : IQ) (S Y : NF) (Z : ZQ) : Prop := wC M t n (dN c) (dK c) f (bsX X c) ∧ IR M t u X c A I S Y Z
def styM (M : mx_M) (S : NF) : Prop := (mx_I M 58 56 = w S.1 ∨ (S.1 = 0 ∧ mx_I M 58 56 = -1)) ∧ ∀ i, i < S.1 → mx_I M 94 i = w (S.2 i)
def cntM (M : mx_M) (Z : ZQ) : Prop := mx_I M 58 17 = Z.1 ∧ mx_I M 71 0 = Z.2.1 ∧ mx_I M 71 1 = Z.2.2
def IS (M : mx_M) (X : TX) (c : CD) (A : AQ) (I : IQ) (S Y : NF) (Z : ZQ) : Prop := CDM M X c ∧ kyM M (dN c) (dK c) (klX X c) (ksX X c) ∧ actM M A.1 (dN c) A.2.1 A.2.2 ∧ imgM M (dN c) I.1 I.2.1.1 I.2.1.2 I.2.2.1 I.2.2.2.1 I.2.2.2.2 ∧ styM M S ∧ tpM M Y.1 Y.2 ∧ cntM M Z
def IM (M : mx_M) (X : TX) (c : CD) (n : Nat) (f : Nat → Nat) (A : AQ) (I : IQ) (S Y : NF) (Z : ZQ) : Prop := (mx_Tp M ∧ rowM M 90 n (dN c) f) ∧ IS M X c A I S Y Z
def ID (X : TX) (c : CD) (n : Nat) (f : Nat → Nat) (A : AQ) (I : IQ) (S : NF) : Prop := gdC X c ∧ dst n f ∧ (∀ i, i < A.1 → dst (A.2.1 i) (A.2.2 i)) ∧ (I.1 = true → dst I.2.1.1 I.2.1.2 ∧ ∀ i, i < I.2.2.1 → dst (I.2.2.2.1 i) (I.2.2.2.2 i)) ∧ S.1 ≤ 10
def rmN (M : mx_M) (sc : Nat × (Nat → Int32)) (r : Nat) : Prop := r ≤ (mx_rm M).1 ∧ 6 * r ≤ (mx_rm M).2 ∧ mx_scr M = sc
def IV (M : mx_M) (sc : Nat × (Nat → Int32)) (t u : Nat) (X : TX) (c : CD) (n : Nat) (f : Nat → Nat) (A : AQ) (I : IQ) (S Y : NF) (Z : ZQ) (r : Nat) : Prop := IC M t u X c n f A I S Y Z ∧ IM M X c n f A I S Y Z ∧ ID X c n f A I S ∧ rmN M sc r
def INV (M : mx_M) (sc : Nat × (Nat → Int32)) (r : Nat) : Prop := ∃ t u X c n f A I S Y Z, IV M sc t u X c n f A I S Y Z r
/-! its parts under changes -/
theorem act_lip {P : Nat → Nat → Prop} {M M1 : mx_M} {N : Nat} {A : AQ} {a : Nat} (L : lip P M M1) (h1 : ¬ P a 1) (h2 : ∀ j, ¬ P (a + 1) j) (H : actC M a A.1 N A.2.1 A.2.2) : actC M1 a A.1 N A.2.1 A.2.2 :=
  ⟨by rw [(L.2 a 1 h1).1]; exact H.1, H.2.1, fun i hi => ⟨by rw [(L.2 (a + 1) i (h2 i)).2]; exact (H.2.2 i hi).1, (H.2.2 i hi).2⟩⟩
theorem img_lip {P : Nat → Nat → Prop} {M M1 : mx_M} {N : Nat} {I : IQ} (L : lip P M M1) (h1 : ¬ P 1 12) (h2 : ¬ P 1 13) (h3 : ¬ P 37 1) (h4 : ∀ j, ¬ P 38 j) (H : imgC M N I.1 I.2.1.1 I.2.1.2 I.2.2.1 I.2.2.2.1 I.2.2.2.2) : imgC M1 N I.1 I.2.1.1 I.2.1.2 I.2.2.1 I.2.2.2.1 I.2.2.2.2 :=
  ⟨by rw [(L.2 1 12 h1).1]; exact H.1, fun y => ⟨⟨by rw [(L.2 1 13 h2).2]; exact (H.2 y).1.1, (H.2 y).1.2⟩, act_lip (A := I.2.2) L h3 h4 (H.2 y).2⟩⟩
theorem set_lip {P : Nat → Nat → Prop} {M M1 : mx_M} {N K : Nat} {Bs : BB} (L : lip P M M1) (h1 : ∀ j, ¬ P 39 j) (h2 : ∀ j, ¬ P 42 j) (H : setC M N K Bs) : setC M1 N K Bs := by
  rcases H with H | H
  · exact Or.inl (by rw [(L.2 39 4 (h1 4)).1]; exact H)
  · exact Or.inr ⟨fun i hi => by rw [(L.2 42 i (h2 i)).1]; exact H.1 i hi, by rw [(L.2 39 3 (h1 3)).1]; exact H.2⟩
theorem sty_lip {P : Nat → Nat → Prop} {M M1 : mx_M} {S : NF} (L : lip P M M1) (h1 : ¬ P 1 11) (h2 : ∀ j, ¬ P 43 j) (H : styC M S) : styC M1 S := ⟨by rw [(L.2 1 11 h1).1]; exact H.1, fun i hi => by rw [(L.2 43 i (h2 i)).1]; exact H.2 i hi⟩
theorem tpC_lip {P : Nat → Nat → Prop} {M M1 : mx_M} {Y : NF} (L : lip P M M1) (h1 : ¬ P 4 1) (h2 : ∀ j, ¬ P 5 j) (H : tpC M Y.1 Y.2) : tpC M1 Y.1 Y.2 := ⟨by rw [(L.2 4 1 h1).1]; exact H.1, H.2.1, fun i hi => by rw [(L.2 5 i (h2 i)).1]; exact H.2.2 i hi⟩
theorem cnt_lip {P : Nat → Nat → Prop} {M M1 : mx_M} {Z : ZQ} (L : lip P M M1) (h4 : ¬ P 1 14) (h5 : ¬ P 1 15) (h6 : ¬ P 1 16) (H : cntC M Z) : cntC M1 Z := ⟨by rw [(L.2 1 14 h4).1]; exact H.1, by rw [(L.2 1 15 h5).1]; exact H.2.1, by rw [(L.2 1 16 h6).1]; exact H.2.2⟩
theorem u_lip {P : Nat → Nat → Prop} {M M1 : mx_M} {t u : Nat} (L : lip P M M1) (H : uC M t u) : uC M1 t u := ⟨H.1, by rw [L.1.2.1]; exact H.2.1, H.2.2⟩
/-- a change that the class's part does not see -/
def far (P : Nat → Nat → Prop) : Prop := ∀ k j, P k j → 58 ≤ k ∨ k = 44 ∨ k = 33 ∨ k = 34
theorem ir_far {P : Nat → Nat → Prop} {M M1 : mx_M} {t u : Nat} {X : TX} {c : CD} {A : AQ} {I : IQ} {S Y : NF} {Z : ZQ} (ht : mx_Cat t) (L : lip P M M1) (hP : far P) (H : IR M t u X c A I S Y Z) : IR M1 t u X c A I S Y Z := by
  have hc : t = 11 ∨ t = 45 := ht
  have g : ∀ k j, ¬ (58 ≤ k ∨ k = 44 ∨ k = 33 ∨ k = 34) → ¬ P k j := fun k j h z => h (hP k j z)
  obtain ⟨h1, h2, h3, h4, h5, h6, h7, h8, h9⟩ := H
  exact ⟨u_lip L h1, CDC_lip L (fun k j z => by have := hP k j z; omega) h2, kyC_of L (fun k j z => by have := hP k j z; omega) h3, act_lip L (g _ _ (by omega)) (fun j => g _ _ (by omega)) h4, img_lip L (g _ _ (by omega)) (g _ _ (by omega)) (g _ _ (by omega)) (fun j => g _ _ (by omega)) h5, set_lip L (fun j => g _ _ (by omega)) (fun j => g _ _ (by omega)) h6, sty_lip L (g _ _ (by omega)) (fun j => g _ _ (by omega)) h7, tpC_lip L (g _ _ (by omega)) (fun j => g _ _ (by omega)) h8, cnt_lip L (g _ _ (by omega)) (g _ _ (by omega)) (g _ _ (by omega)) h9⟩
theorem ic_far {P : Nat → Nat → Prop} {M M1 : mx_M} {t u : Nat} {X : TX} {c : CD} {n : Nat} {f : Nat → Nat} {A : AQ} {I : IQ} {S Y : NF} {Z : ZQ} (L : lip P M M1) (hP : far P) (H : IC M t u X c n f A I S Y Z) : IC M1 t u X c n f A I S Y Z := by
  have ht := H.1.2.1.1.1
  have hc : t = 11 ∨ t = 45 := ht
  exact ⟨wC_of L (fun k j z => by have := hP k j z; omega) H.1, ir_far ht L hP H.2⟩
theorem actN_lip {P : Nat → Nat → Prop} {M M1 : mx_M} {N : Nat} {A : AQ} (L : lip P M M1) (h1 : ¬ P 58 53) (h2 : ∀ j, ¬ P 92 j) (H : actM M A.1 N A.2.1 A.2.2) : actM M1 A.1 N A.2.1 A.2.2 :=
  ⟨by rw [(L.2 58 53 h1).1]; exact H.1, H.2.1, fun i hi => ⟨by rw [(L.2 92 _ (h2 _)).1]; exact (H.2.2 i hi).1, (H.2.2 i hi).2.1, fun j hj => ⟨by rw [(L.2 92 _ (h2 _)).1]; exact ((H.2.2 i hi).2.2 j hj).1, ((H.2.2 i hi).2.2 j hj).2⟩⟩⟩
theorem imgM_lip {P : Nat → Nat → Prop} {M M1 : mx_M} {N : Nat} {I : IQ} (L : lip P M M1) (h1 : ¬ P 58 60) (h2 : ¬ P 58 61) (h3 : ∀ j, ¬ P 96 j) (h4 : ∀ j, ¬ P 97 j) (H : imgM M N I.1 I.2.1.1 I.2.1.2 I.2.2.1 I.2.2.2.1 I.2.2.2.2) : imgM M1 N I.1 I.2.1.1 I.2.1.2 I.2.2.1 I.2.2.2.1 I.2.2.2.2 := by
  refine ⟨by rw [(L.2 58 60 h1).1]; exact H.1, fun y => ⟨⟨by rw [(L.2 96 0 (h3 _)).1]; exact (H.2 y).1.1, (H.2 y).1.2.1, fun i hi => ⟨by rw [(L.2 96 _ (h3 _)).1]; exact ((H.2 y).1.2.2 i hi).1, ((H.2 y).1.2.2 i hi).2⟩⟩, ?_⟩⟩
  have A := (H.2 y).2
  exact ⟨by rw [(L.2 58 61 h2).1]; exact A.1, A.2.1, fun i hi => ⟨by rw [(L.2 97 _ (h4 _)).1]; exact (A.2.2 i hi).1, (A.2.2 i hi).2.1, fun j hj => ⟨by rw [(L.2 97 _ (h4 _)).1]; exact ((A.2.2 i hi).2.2 j hj).1, ((A.2.2 i hi).2.2 j hj).2⟩⟩⟩
theorem styM_lip {P : Nat → Nat → Prop} {M M1 : mx_M} {S : NF} (L : lip P M M1) (h1 : ¬ P 58 56) (h2 : ∀ j, ¬ P 94 j) (H : styM M S) : styM M1 S := ⟨by rw [(L.2 58 56 h1).1]; exact H.1, fun i hi => by rw [(L.2 94 i (h2 i)).1]; exact H.2 i hi⟩
theorem tpM_lip {P : Nat → Nat → Prop} {M M1 : mx_M} {Y : NF} (L : lip P M M1) (h1 : ¬ P 58 15) (h2 : ∀ j, ¬ P 70 j) (H : tpM M Y.1 Y.2) : tpM M1 Y.1 Y.2 := ⟨by rw [(L.2 58 15 h1).1]; exact H.1, H.2.1, fun i hi => by rw [(L.2 70 i (h2 i)).1]; exact H.2.2 i hi⟩
theorem cntM_lip {P : Nat → Nat → Prop} {M M1 : mx_M} {Z : ZQ} (L : lip P M M1) (h4 : ¬ P 58 17) (h5 : ¬ P 71 0) (h6 : ¬ P 71 1) (H : cntM M Z) : cntM M1 Z := ⟨by rw [(L.2 58 17 h4).1]; exact H.1, by rw [(L.2 71 0 h5).1]; exact H.2.1, by rw [(L.2 71 1 h6).1]; exact H.2.2⟩
/-- a change that the reference's part does not see -/
def farM (P : Nat → Nat → Prop) : Prop := ∀ k j, P k j → k < 58 ∨ 98 ≤ k ∨ (k = 88 ∨ k = 89 ∨ k = 91 ∨ k = 93 ∨ k = 95) ∨ (k = 58 ∧ (j = 0 ∨ j = 57 ∨ j = 59))
theorem is_far {P : Nat → Nat → Prop} {M M1 : mx_M} {X : TX} {c : CD} {A : AQ} {I : IQ} {S Y : NF} {Z : ZQ} (L : lip P M M1) (hP : farM P) (H : IS M X c A I S Y Z) : IS M1 X c A I S Y Z := by
  have g : ∀ k j, ¬ (k < 58 ∨ 98 ≤ k ∨ (k = 88 ∨ k = 89 ∨ k = 91 ∨ k = 93 ∨ k = 95) ∨ (k = 58 ∧ (j = 0 ∨ j = 57 ∨ j = 59))) → ¬ P k j := fun k j h z => h (hP k j z)
  obtain ⟨h1, h2, h3, h4, h5, h6, h7⟩ := H
  exact ⟨CDM_lip L (fun k j z => by have := hP k j z; omega) h1, fun o x ho hx => slM_of L (fun a j z => by have := hP a j z; omega) (h2 o x ho hx), actN_lip L (g _ _ (by omega)) (fun j => g _ _ (by omega)) h3, imgM_lip L (g _ _ (by omega)) (g _ _ (by omega)) (fun j => g _ _ (by omega)) (fun j => g _ _ (by omega)) h4, styM_lip L (g _ _ (by omega)) (fun j => g _ _ (by omega)) h5, tpM_lip L (g _ _ (by omega)) (fun j => g _ _ (by omega)) h6, cntM_lip L (g _ _ (by omega)) (g _ _ (by omega)) (g _ _ (by omega)) h7⟩
theorem im_far {P : Nat → Nat → Prop} {M M1 : mx_M} {X : TX} {c : CD} {n : Nat} {f : Nat → Nat} {A : AQ} {I : IQ} {S Y : NF} {Z : ZQ} (L : lip P M M1) (hP : farM P) (H : IM M X c n f A I S Y Z) : IM M1 X c n f A I S Y Z :=
  ⟨⟨lip_T L H.1.1, rowM_of L (fun j z => by have := hP _ _ z; omega) H.1.2⟩, is_far L hP H.2⟩
theorem im_wM {M : mx_M} {X : TX} {c : CD} {n : Nat} {f : Nat → Nat} {A : AQ} {I : IQ} {S Y : NF} {Z : ZQ} (G : gdC X c) (H : IM M X c n f A I S Y Z) : wM M n (dN c) (dK c) f (bsX X c) := wM_cdm H.1.1 G H.2.1 H.2.2.1 H.1.2
theorem rm_lip {P : Nat → Nat → Prop} {M M1 : mx_M} {sc : Nat × (Nat → Int32)} {r : Nat} (L : lip P M M1) (H : rmN M sc r) : rmN M1 sc r := ⟨by rw [L.1.2.2.1]; exact H.1, by rw [L.1.2.2.1]; exact H.2.1, by rw [L.1.2.2.2]; exact H.2.2⟩
theorem rm_w {M : mx_M} {sc : Nat × (Nat → Int32)} {r : Nat} (H : rmN M sc (r + 1)) : rmN M sc r := ⟨by have := H.1; omega, by have := H.2.1; omega, H.2.2⟩
theorem rm_E {M : mx_M} {sc : Nat × (Nat → Int32)} {r : Nat} (H : rmN M sc (r + 1)) : rmE M := ⟨by have := H.1; omega, by have := H.2.1; omega⟩
/-- a change that neither sees -/
theorem iv_far {P : Nat → Nat → Prop} {M M1 : mx_M} {sc : Nat × (Nat → Int32)} {t u : Nat} {X : TX} {c : CD} {n : Nat} {f : Nat → Nat} {A : AQ} {I : IQ} {S Y : NF} {Z : ZQ} {r : Nat} (L : lip P M M1) (h1 : far P) (h2 : farM P) (H : IV M sc t u X c n f A I S Y Z r) : IV M1 sc t u X c n f A I S Y Z r :=
  ⟨ic_far L h1 H.1, im_far L h2 H.2.1, H.2.2.1, rm_lip L H.2.2.2⟩
theorem iv_w {M : mx_M} {sc : Nat × (Nat → Int32)} {t u : Nat} {X : TX} {c : CD} {n : Nat} {f : Nat → Nat} {A : AQ} {I : IQ} {S Y : NF} {Z : ZQ} {r : Nat} (H : IV M sc t u X c n f A I S Y Z (r + 1)) : IV M sc t u X c n f A I S Y Z r := ⟨H.1, H.2.1, H.2.2.1, rm_w H.2.2.2⟩
theorem im_th {M : mx_M} {X : TX} {c : CD} {n : Nat} {f : Nat → Nat} {A : AQ} {I : IQ} {S Y : NF} {Z : ZQ} (H : IM M X c n f A I S Y Z) : IM (mx_thM M) X c n f A I S Y Z := by
  obtain ⟨h0, ⟨c1, c2, c3, c4, c5⟩, h2⟩ := H
  refine ⟨h0, ⟨c1, c2, c3, c4, fun o ho hi => ?_⟩, h2⟩
  obtain ⟨a, r1, r2, r3⟩ := c5 o ho hi
  exact ⟨a, r1, r2, cdL_eq (M := M) (M1 := mx_thM M) rfl _ _ r3⟩
theorem iv_th {M : mx_M} {sc : Nat × (Nat → Int32)} {t u : Nat} {X : TX} {c : CD} {n : Nat} {f : Nat → Nat} {A : AQ} {I : IQ} {S Y : NF} {Z : ZQ} {r : Nat} (H : IV M sc t u X c n f A I S Y Z (r + 1)) : IV (mx_thM M) sc t u X c n f A I S Y Z r :=
  ⟨H.1, im_th H.2.1, H.2.2.1, ⟨by have := H.2.2.2.1; show r ≤ (mx_rm M).1 - 1; omega, by have := H.2.2.2.2.1; show 6 * r ≤ (mx_rm M).2 - 6; omega, H.2.2.2.2.2⟩⟩
theorem iv_j {M : mx_M} {v : Int64} {sc : Nat × (Nat → Int32)} {t u : Nat} {X : TX} {c : CD} {n : Nat} {f : Nat → Nat} {A : AQ} {I : IQ} {S Y : NF} {Z : ZQ} {r : Nat} (H : IV M sc t u X c n f A I S Y Z r) : IV (mx_setJ M 98 0 v) sc t u X c n f A I S Y Z r :=
  iv_far (P := fun k j => k = 98 ∧ j = 0) (lip_setJ ⟨rfl, rfl⟩) (fun k j z => by omega) (fun k j z => by omega) H
theorem iv_0 {M : mx_M} {v : Int32} {sc : Nat × (Nat → Int32)} {t u : Nat} {X : TX} {c : CD} {n : Nat} {f : Nat → Nat} {A : AQ} {I : IQ} {S Y : NF} {Z : ZQ} {r : Nat} (H : IV M sc t u X c n f A I S Y Z r) : IV (mx_setI M 58 0 v) sc t u X c n f A I S Y Z r :=
  iv_far (P := fun k j => k = 58 ∧ j = 0) (lip_setI ⟨rfl, rfl⟩) (fun k j z => by omega) (fun k j z => by omega) H
theorem mQ_far : far mQ := fun k j z => by rcases z with z | z | z | z | z | z <;> omega
theorem mQ_farM : farM mQ := fun k j z => by rcases z with z | z | z | z | z | z <;> omega
theorem iv_q {M M1 : mx_M} {sc : Nat × (Nat → Int32)} {t u : Nat} {X : TX} {c : CD} {n : Nat} {f : Nat → Nat} {A : AQ} {I : IQ} {S Y : NF} {Z : ZQ} {r : Nat} (L : lip mQ (mx_setI M 58 0 0) M1) (H : IV M sc t u X c n f A I S Y Z r) : IV M1 sc t u X c n f A I S Y Z r := iv_far L mQ_far mQ_farM (iv_0 H)
theorem iv_sto {M : mx_M} {sc : Nat × (Nat → Int32)} {t u : Nat} {X : TX} {c : CD} {n : Nat} {f : Nat → Nat} {A : AQ} {I : IQ} {S Y : NF} {Z : ZQ} {r : Nat} (H : IV M sc t u X c n f A I S Y Z r) : ∀ o, o < dK c → sto (dN c) (bsX X c o) := fun o ho => (H.1.1.2.2.2 o ho).1
theorem iv_kb {M : mx_M} {sc : Nat × (Nat → Int32)} {t u : Nat} {X : TX} {c : CD} {n : Nat} {f : Nat → Nat} {A : AQ} {I : IQ} {S Y : NF} {Z : ZQ} {r : Nat} (H : IV M sc t u X c n f A I S Y Z r) : kbP (dN c) (dK c) (bsX X c) (klX X c) (ksX X c) := fun o x y ho hx hy h => by
  have a := H.2.1.2.2.1 o x ho hx
  have b := H.2.1.2.2.1 o y ho hy
  exact ordB_kb a.2.1 b.2.1 (fun i hi => (a.2.2.2 i hi).2) (fun i hi => (b.2.2.2 i hi).2) h
