/-! arrays -/
theorem mx_iald {μ : mx_Me} {d pc n : Nat} {ls st : List Value} {M : mx_M} {Q : mx_O → mx_M → Prop} {r N : Nat} {i : Int32} (hs : mx_shp M r = some (.inr (.int, N))) (hi : vp_in i N) (hd : decode μ.2.1 pc = .ok (.iaload, 1)) (hn : pc + 1 = n) (k : mx_W μ d n ls (.int (mx_I M r i.toNatClampNeg) :: st) M Q) : mx_W μ d pc ls (.int i :: .ref r :: st) M Q := by
  subst hn
  intro Γ p l e R s m args below meth c a0 n0 H locs cells slots ad la C A L
  cases r with
  | zero => cases hs
  | succ r =>
    have he : (mx_ws Γ ad M)[r]? = some (ad r, .inl (mx_ac Γ .int, N, .inl (mx_I M (r + 1)))) := mx_ws_at (Γ := Γ) (ad := ad) hs
    exact va_iald C.1 C.2.1 C.2.2.2.2.2.2.2.2.2.2.2.1 A.1.1 r 0 he rfl hi hd (k Γ p l e R s m args below meth c a0 n0 H locs cells slots ad la C A L)
theorem mx_lald {μ : mx_Me} {d pc n : Nat} {ls st : List Value} {M : mx_M} {Q : mx_O → mx_M → Prop} {r N : Nat} {i : Int32} (hs : mx_shp M r = some (.inr (.long, N))) (hi : vp_in i N) (hd : decode μ.2.1 pc = .ok (.laload, 1)) (hn : pc + 1 = n) (k : mx_W μ d n ls (.long (mx_J M r i.toNatClampNeg) :: st) M Q) : mx_W μ d pc ls (.int i :: .ref r :: st) M Q := by
  subst hn
  intro Γ p l e R s m args below meth c a0 n0 H locs cells slots ad la C A L
  cases r with
  | zero => cases hs
  | succ r =>
    have he : (mx_ws Γ ad M)[r]? = some (ad r, .inl (mx_ac Γ .long, N, .inr (.inl (mx_J M (r + 1))))) := mx_ws_at (Γ := Γ) (ad := ad) hs
    exact va_lald C.1 C.2.1 C.2.2.2.2.2.2.2.2.2.2.2.1 A.1.1 r 1 he rfl hi hd (k Γ p l e R s m args below meth c a0 n0 H locs cells slots ad la C A L)
theorem mx_bald {μ : mx_Me} {d pc n : Nat} {ls st : List Value} {M : mx_M} {Q : mx_O → mx_M → Prop} {r N : Nat} {i : Int32} (hs : mx_shp M r = some (.inr (.byte, N))) (hi : vp_in i N) (hd : decode μ.2.1 pc = .ok (.baload, 1)) (hn : pc + 1 = n) (k : mx_W μ d n ls (.int (mx_I M r i.toNatClampNeg) :: st) M Q) : mx_W μ d pc ls (.int i :: .ref r :: st) M Q := by
  subst hn
  intro Γ p l e R s m args below meth c a0 n0 H locs cells slots ad la C A L
  cases r with
  | zero => cases hs
  | succ r =>
    have he : (mx_ws Γ ad M)[r]? = some (ad r, .inl (mx_ac Γ .byte, N, .inl (mx_I M (r + 1)))) := mx_ws_at (Γ := Γ) (ad := ad) hs
    exact va_bald C.1 C.2.1 C.2.2.2.2.2.2.2.2.2.2.2.1 A.1.1 r 2 he rfl hi hd (k Γ p l e R s m args below meth c a0 n0 H locs cells slots ad la C A L)
theorem mx_zald {μ : mx_Me} {d pc n : Nat} {ls st : List Value} {M : mx_M} {Q : mx_O → mx_M → Prop} {r N : Nat} {i : Int32} (hs : mx_shp M r = some (.inr (.boolean, N))) (hi : vp_in i N) (hd : decode μ.2.1 pc = .ok (.baload, 1)) (hn : pc + 1 = n) (k : mx_W μ d n ls (.int (mx_I M r i.toNatClampNeg) :: st) M Q) : mx_W μ d pc ls (.int i :: .ref r :: st) M Q := by
  subst hn
  intro Γ p l e R s m args below meth c a0 n0 H locs cells slots ad la C A L
  cases r with
  | zero => cases hs
  | succ r =>
    have he : (mx_ws Γ ad M)[r]? = some (ad r, .inl (mx_ac Γ .boolean, N, .inl (mx_I M (r + 1)))) := mx_ws_at (Γ := Γ) (ad := ad) hs
    exact va_zald C.1 C.2.1 C.2.2.2.2.2.2.2.2.2.2.2.1 A.1.1 r 3 he rfl hi hd (k Γ p l e R s m args below meth c a0 n0 H locs cells slots ad la C A L)
theorem mx_iast {μ : mx_Me} {d pc n : Nat} {ls st : List Value} {M : mx_M} {Q : mx_O → mx_M → Prop} {r N : Nat} {i : Int32} {x : Int32} (hs : mx_shp M r = some (.inr (.int, N))) (hi : vp_in i N) (hd : decode μ.2.1 pc = .ok (.iastore, 1)) (hn : pc + 1 = n) (k : mx_W μ d n ls st (mx_setI M r i.toNatClampNeg (x)) Q) : mx_W μ d pc ls (.int x :: .int i :: .ref r :: st) M Q := by
  subst hn
  intro Γ p l e R s m args below meth c a0 n0 H locs cells slots ad la C A L
  cases r with
  | zero => cases hs
  | succ r =>
    have he : (mx_ws Γ ad M)[r]? = some (ad r, .inl (mx_ac Γ .int, N, .inl (mx_I M (r + 1)))) := mx_ws_at (Γ := Γ) (ad := ad) hs
    have hset : mx_ws Γ ad (mx_setI M (r + 1) i.toNatClampNeg (x)) = (mx_ws Γ ad M).set r (ad r, .inl (mx_ac Γ .int, N, .inl (upd (mx_I M (r + 1)) i.toNatClampNeg (x)))) := by
      rw [mx_ws_set (M' := mx_setI M (r + 1) i.toNatClampNeg (x)) hs rfl (fun a ha => mx_up_off _ _ ha) (fun a ha => rfl) (fun a ha => rfl)]
      show _ = (mx_ws Γ ad M).set r (ad r, .inl (mx_ac Γ .int, N, .inl (upd (mx_I M (r + 1)) i.toNatClampNeg (x))))
      have e9 : mx_up (mx_I M) (r + 1) i.toNatClampNeg (x) (r + 1) = upd (mx_I M (r + 1)) i.toNatClampNeg (x) := by rw [mx_up_on]; rfl
      rw [← e9]
      rfl
    refine va_iast C.1 C.2.1 C.2.2.2.2.2.2.2.2.2.2.2.1 A.1.1 A.1.2.1 A.2.1 r 0 he rfl hi hd (fun H1 locs1 hP hD hS => ?_)
    rw [← hset] at hP hD
    exact k Γ p l e R s m args below meth c a0 n0 H1 locs1 cells slots ad la C ⟨⟨hP, hD, A.1.2.2⟩, hS, A.2.2.1, A.2.2.2.1, A.2.2.2.2.1, A.2.2.2.2.2⟩ L
theorem mx_last {μ : mx_Me} {d pc n : Nat} {ls st : List Value} {M : mx_M} {Q : mx_O → mx_M → Prop} {r N : Nat} {i : Int32} {x : Int64} (hs : mx_shp M r = some (.inr (.long, N))) (hi : vp_in i N) (hd : decode μ.2.1 pc = .ok (.lastore, 1)) (hn : pc + 1 = n) (k : mx_W μ d n ls st (mx_setJ M r i.toNatClampNeg (x)) Q) : mx_W μ d pc ls (.long x :: .int i :: .ref r :: st) M Q := by
  subst hn
  intro Γ p l e R s m args below meth c a0 n0 H locs cells slots ad la C A L
  cases r with
  | zero => cases hs
  | succ r =>
    have he : (mx_ws Γ ad M)[r]? = some (ad r, .inl (mx_ac Γ .long, N, .inr (.inl (mx_J M (r + 1))))) := mx_ws_at (Γ := Γ) (ad := ad) hs
    have hset : mx_ws Γ ad (mx_setJ M (r + 1) i.toNatClampNeg (x)) = (mx_ws Γ ad M).set r (ad r, .inl (mx_ac Γ .long, N, .inr (.inl (vp_updL (mx_J M (r + 1)) i.toNatClampNeg x)))) := by
      rw [mx_ws_set (M' := mx_setJ M (r + 1) i.toNatClampNeg (x)) hs rfl (fun a ha => rfl) (fun a ha => mx_up_off _ _ ha) (fun a ha => rfl)]
      show _ = (mx_ws Γ ad M).set r (ad r, .inl (mx_ac Γ .long, N, .inr (.inl (vp_updL (mx_J M (r + 1)) i.toNatClampNeg x))))
      have e9 : mx_up (mx_J M) (r + 1) i.toNatClampNeg (x) (r + 1) = vp_updL (mx_J M (r + 1)) i.toNatClampNeg (x) := by rw [mx_up_on]; rfl
      rw [← e9]
      rfl
    refine va_last C.1 C.2.1 C.2.2.2.2.2.2.2.2.2.2.2.1 A.1.1 A.1.2.1 A.2.1 r 1 he rfl hi hd (fun H1 locs1 hP hD hS => ?_)
    rw [← hset] at hP hD
    exact k Γ p l e R s m args below meth c a0 n0 H1 locs1 cells slots ad la C ⟨⟨hP, hD, A.1.2.2⟩, hS, A.2.2.1, A.2.2.2.1, A.2.2.2.2.1, A.2.2.2.2.2⟩ L
theorem mx_bast {μ : mx_Me} {d pc n : Nat} {ls st : List Value} {M : mx_M} {Q : mx_O → mx_M → Prop} {r N : Nat} {i : Int32} {x : Int32} (hs : mx_shp M r = some (.inr (.byte, N))) (hi : vp_in i N) (hd : decode μ.2.1 pc = .ok (.bastore, 1)) (hn : pc + 1 = n) (k : mx_W μ d n ls st (mx_setI M r i.toNatClampNeg (vp_nar .byte x)) Q) : mx_W μ d pc ls (.int x :: .int i :: .ref r :: st) M Q := by
  subst hn
  intro Γ p l e R s m args below meth c a0 n0 H locs cells slots ad la C A L
  cases r with
  | zero => cases hs
  | succ r =>
    have he : (mx_ws Γ ad M)[r]? = some (ad r, .inl (mx_ac Γ .byte, N, .inl (mx_I M (r + 1)))) := mx_ws_at (Γ := Γ) (ad := ad) hs
    have hset : mx_ws Γ ad (mx_setI M (r + 1) i.toNatClampNeg (vp_nar .byte x)) = (mx_ws Γ ad M).set r (ad r, .inl (mx_ac Γ .byte, N, .inl (upd (mx_I M (r + 1)) i.toNatClampNeg (vp_nar .byte x)))) := by
      rw [mx_ws_set (M' := mx_setI M (r + 1) i.toNatClampNeg (vp_nar .byte x)) hs rfl (fun a ha => mx_up_off _ _ ha) (fun a ha => rfl) (fun a ha => rfl)]
      show _ = (mx_ws Γ ad M).set r (ad r, .inl (mx_ac Γ .byte, N, .inl (upd (mx_I M (r + 1)) i.toNatClampNeg (vp_nar .byte x))))
      have e9 : mx_up (mx_I M) (r + 1) i.toNatClampNeg (vp_nar .byte x) (r + 1) = upd (mx_I M (r + 1)) i.toNatClampNeg (vp_nar .byte x) := by rw [mx_up_on]; rfl
      rw [← e9]
      rfl
    refine va_bast C.1 C.2.1 C.2.2.2.2.2.2.2.2.2.2.2.1 A.1.1 A.1.2.1 A.2.1 r 2 he rfl hi hd (fun H1 locs1 hP hD hS => ?_)
    rw [← hset] at hP hD
    exact k Γ p l e R s m args below meth c a0 n0 H1 locs1 cells slots ad la C ⟨⟨hP, hD, A.1.2.2⟩, hS, A.2.2.1, A.2.2.2.1, A.2.2.2.2.1, A.2.2.2.2.2⟩ L
theorem mx_zast {μ : mx_Me} {d pc n : Nat} {ls st : List Value} {M : mx_M} {Q : mx_O → mx_M → Prop} {r N : Nat} {i : Int32} {x : Int32} (hs : mx_shp M r = some (.inr (.boolean, N))) (hi : vp_in i N) (hd : decode μ.2.1 pc = .ok (.bastore, 1)) (hn : pc + 1 = n) (k : mx_W μ d n ls st (mx_setI M r i.toNatClampNeg (vp_nar .boolean x)) Q) : mx_W μ d pc ls (.int x :: .int i :: .ref r :: st) M Q := by
  subst hn
  intro Γ p l e R s m args below meth c a0 n0 H locs cells slots ad la C A L
  cases r with
  | zero => cases hs
  | succ r =>
    have he : (mx_ws Γ ad M)[r]? = some (ad r, .inl (mx_ac Γ .boolean, N, .inl (mx_I M (r + 1)))) := mx_ws_at (Γ := Γ) (ad := ad) hs
    have hset : mx_ws Γ ad (mx_setI M (r + 1) i.toNatClampNeg (vp_nar .boolean x)) = (mx_ws Γ ad M).set r (ad r, .inl (mx_ac Γ .boolean, N, .inl (upd (mx_I M (r + 1)) i.toNatClampNeg (vp_nar .boolean x)))) := by
      rw [mx_ws_set (M' := mx_setI M (r + 1) i.toNatClampNeg (vp_nar .boolean x)) hs rfl (fun a ha => mx_up_off _ _ ha) (fun a ha => rfl) (fun a ha => rfl)]
      show _ = (mx_ws Γ ad M).set r (ad r, .inl (mx_ac Γ .boolean, N, .inl (upd (mx_I M (r + 1)) i.toNatClampNeg (vp_nar .boolean x))))
      have e9 : mx_up (mx_I M) (r + 1) i.toNatClampNeg (vp_nar .boolean x) (r + 1) = upd (mx_I M (r + 1)) i.toNatClampNeg (vp_nar .boolean x) := by rw [mx_up_on]; rfl
      rw [← e9]
      rfl
    refine va_zast C.1 C.2.1 C.2.2.2.2.2.2.2.2.2.2.2.1 A.1.1 A.1.2.1 A.2.1 r 3 he rfl hi hd (fun H1 locs1 hP hD hS => ?_)
    rw [← hset] at hP hD
    exact k Γ p l e R s m args below meth c a0 n0 H1 locs1 cells slots ad la C ⟨⟨hP, hD, A.1.2.2⟩, hS, A.2.2.1, A.2.2.2.1, A.2.2.2.2.1, A.2.2.2.2.2⟩ L
theorem mx_alen {μ : mx_Me} {d pc n : Nat} {ls st : List Value} {M : mx_M} {Q : mx_O → mx_M → Prop} {r N : Nat} {ty : FieldType} (v : Int32) (hs : mx_shp M r = some (.inr (ty, N))) (hty : ty = .int ∨ ty = .long ∨ ty = .byte ∨ ty = .boolean) (hv : Int32.ofNat N = v) (hd : decode μ.2.1 pc = .ok (.arraylength, 1)) (hn : pc + 1 = n) (k : mx_W μ d n ls (.int v :: st) M Q) : mx_W μ d pc ls (.ref r :: st) M Q := by
  subst hn
  intro Γ p l e R s m args below meth c a0 n0 H locs cells slots ad la C A L
  cases r with
  | zero => cases hs
  | succ r =>
    have he := mx_ws_at (Γ := Γ) (ad := ad) hs
    rcases hty with h | h | h | h <;> subst h
    · exact va_alen C.1 C.2.1 C.2.2.2.2.2.2.2.2.2.2.2.1 A.1.1 r 0 he rfl hv hd (k Γ p l e R s m args below meth c a0 n0 H locs cells slots ad la C A L)
    · exact va_alen C.1 C.2.1 C.2.2.2.2.2.2.2.2.2.2.2.1 A.1.1 r 1 he rfl hv hd (k Γ p l e R s m args below meth c a0 n0 H locs cells slots ad la C A L)
    · exact va_alen C.1 C.2.1 C.2.2.2.2.2.2.2.2.2.2.2.1 A.1.1 r 2 he rfl hv hd (k Γ p l e R s m args below meth c a0 n0 H locs cells slots ad la C A L)
    · exact va_alen C.1 C.2.1 C.2.2.2.2.2.2.2.2.2.2.2.1 A.1.1 r 3 he rfl hv hd (k Γ p l e R s m args below meth c a0 n0 H locs cells slots ad la C A L)
/-! the script -/
theorem mx_X {Γ : mx_G} {μ : mx_Me} {d : Nat} {scr : Nat × (Nat → Int32)} {p : Program} {l : Launch} {R : Room} {s : State} {m : MethodId} {meth : Method} {c : Code} (C : mx_Ctx Γ μ d scr p l R s m meth c) : va_X (mx_old Γ 1) scr.1 scr.2 s s.heap ∧ mx_old Γ 1 < s.heap.size ∧ ¬ mx_A Γ (mx_old Γ 1) := by
  obtain ⟨-, -, -, -, -, -, -, -, -, -, -, -, -, -, -, -, -, -, h9, h10, h11, -⟩ := C
  exact ⟨h9, Nat.lt_of_lt_of_le h10 h11, Nat.not_le.mpr h10⟩
theorem mx_sld {μ : mx_Me} {d pc n : Nat} {ls st : List Value} {M : mx_M} {Q : mx_O → mx_M → Prop} {i : Int32} (hi : vp_in i (mx_scr M).1) (hd : decode μ.2.1 pc = .ok (.iaload, 1)) (hn : pc + 1 = n) (k : mx_W μ d n ls (.int ((mx_scr M).2 i.toNatClampNeg) :: st) M Q) : mx_W μ d pc ls (.int i :: .retAddr 1 :: st) M Q := by
  subst hn
  intro Γ p l e R s m args below meth c a0 n0 H locs cells slots ad la C A L
  obtain ⟨h1, h2, h3⟩ := mx_X C
  exact va_sld C.1 C.2.1 h1 h2 h3 A.2.1 hi hd (k Γ p l e R s m args below meth c a0 n0 H locs cells slots ad la C A L)
theorem mx_slen {μ : mx_Me} {d pc n : Nat} {ls st : List Value} {M : mx_M} {Q : mx_O → mx_M → Prop} (hd : decode μ.2.1 pc = .ok (.arraylength, 1)) (hn : pc + 1 = n) (k : mx_W μ d n ls (.int (Int32.ofNat (mx_scr M).1) :: st) M Q) : mx_W μ d pc ls (.retAddr 1 :: st) M Q := by
  subst hn
  intro Γ p l e R s m args below meth c a0 n0 H locs cells slots ad la C A L
  obtain ⟨h1, h2, h3⟩ := mx_X C
  exact va_slen C.1 C.2.1 h1 h2 h3 A.2.1 hd (k Γ p l e R s m args below meth c a0 n0 H locs cells slots ad la C A L)
/-! constants of the pool -/
theorem mx_ldc {μ : mx_Me} {d pc n : Nat} {ls st : List Value} {M : mx_M} {Q : mx_O → mx_M → Prop} {index : Nat} {v : Int32} (hc : Cond.constant μ.1 index v ∈ lw_tbl) (hd : decode μ.2.1 pc = .ok (.ldc index, 2)) (hn : pc + 2 = n) (k : mx_W μ d n ls (.int v :: st) M Q) : mx_W μ d pc ls st M Q := by
  subst hn
  intro Γ p l e R s m args below meth c a0 n0 H locs cells slots ad la C A L
  exact lv_ldc C.1 C.2.1 C.2.2.2.1 (C.2.2.2.2.2.2.2.2.2.2.1 _ hc rfl args) hd (k Γ p l e R s m args below meth c a0 n0 H locs cells slots ad la C A L)
theorem mx_ldc2 {μ : mx_Me} {d pc n : Nat} {ls st : List Value} {M : mx_M} {Q : mx_O → mx_M → Prop} {index : Nat} {v : Int64} (hc : Cond.constantLong μ.1 index v ∈ lw_tbl) (hd : decode μ.2.1 pc = .ok (.ldc2_w index, 3)) (hn : pc + 3 = n) (k : mx_W μ d n ls (.long v :: st) M Q) : mx_W μ d pc ls st M Q := by
  subst hn
  intro Γ p l e R s m args below meth c a0 n0 H locs cells slots ad la C A L
  exact lv_ldc2 C.1 C.2.1 C.2.2.2.1 (C.2.2.2.2.2.2.2.2.2.2.1 _ hc rfl args) hd (k Γ p l e R s m args below meth c a0 n0 H locs cells slots ad la C A L)
theorem mx_ldcS {μ : mx_Me} {d pc n : Nat} {ls st : List Value} {M : mx_M} {Q : mx_O → mx_M → Prop} (i : Nat) {index : Nat} {tx : String} (hi : i < 33) (hc : mx_txt.getD i ("", 0, "") = (μ.1, index, tx)) (hd : decode μ.2.1 pc = .ok (.ldc index, 2)) (hn : pc + 2 = n) (k : mx_W μ d n ls (.retAddr (2 * i + 2) :: st) M Q) : mx_W μ d pc ls st M Q := by
  subst hn
  intro Γ p l e R s m args below meth c a0 n0 H locs cells slots ad la C A L
  have h3 := C.2.2.2.2.2.2.2.2.2.2.2.2.1 i hi
  rw [hc] at h3
  exact va_ldcS C.1 C.2.1 C.2.2.2.1 h3 hd (k Γ p l e R s m args below meth c a0 n0 H locs cells slots ad la C A L)
/-! ends -/
theorem mx_end {Γ : mx_G} {R : Room} {s : State} {below : List Frame} {a0 : Nat → Nat} {n0 : Nat} {M : mx_M} {H : Heap} {locs : List Loc} {cells slots : Nat} {ad : Nat → Nat} {args : Array Value} {Q : mx_O → mx_M → Prop} {v : Option Value} (A : mx_At Γ R s a0 n0 M H locs cells slots ad) (hq : Q (.inl v) M) :
    ∀ t, MQ below (fun _ s o t => o = .returned (v.map (mx_tv Γ ad)) ∧ t.heap = H) args s cells slots (mx_A Γ) t → mx_Fin Γ (mx_scr M) R s below a0 n0 Q t := by
  intro t ht
  obtain ⟨o, h1, h2, ⟨h3, h4⟩, L, ⟨-, h5, h6⟩, h7⟩ := ht
  refine ⟨o, .inl v, M, ad, L, cells, slots, h1, h2, h3, ?_, h5, h6, rfl, hq⟩
  rw [h4]
  exact ⟨A.1, ⟨A.2.1.1, A.2.1.2.1, h7⟩, A.2.2⟩
theorem mx_iret {μ : mx_Me} {d pc : Nat} {ls : List Value} {M : mx_M} {Q : mx_O → mx_M → Prop} {x : Int32} (hr : μ.2.2.2.1 = some .int) (hd : decode μ.2.1 pc = .ok (.ireturn, 1)) (hq : Q (.inl (some (.int x))) M) : mx_W μ d pc ls [.int x] M Q := by
  intro Γ p l e R s m args below meth c a0 n0 H locs cells slots ad la C A L
  exact mx_Wq (W.iret C.1 C.2.1 (C.2.2.2.2.1.trans hr) (fun t ht _ => ⟨rfl, ht⟩) A.2.1.2.2 hd C.2.2.2.2.2.1) (mx_end A hq)
/-- a boolean (or another small number): as it is narrowed -/
theorem mx_zret {μ : mx_Me} {d pc : Nat} {ls : List Value} {M : mx_M} {Q : mx_O → mx_M → Prop} {x : Int32} {ty : FieldType} (hr : μ.2.2.2.1 = some ty) (hx : narrow ty (.int x) = .int x) (hd : decode μ.2.1 pc = .ok (.ireturn, 1)) (hq : Q (.inl (some (.int x))) M) : mx_W μ d pc ls [.int x] M Q := by
  intro Γ p l e R s m args below meth c a0 n0 H locs cells slots ad la C A L
  exact mx_Wq (W.zret C.1 C.2.1 (C.2.2.2.2.1.trans hr) hx (fun t ht _ => ⟨rfl, ht⟩) A.2.1.2.2 hd C.2.2.2.2.2.1) (mx_end A hq)
theorem mx_lret {μ : mx_Me} {d pc : Nat} {ls : List Value} {M : mx_M} {Q : mx_O → mx_M → Prop} {x : Int64} (hr : μ.2.2.2.1 = some .long) (hd : decode μ.2.1 pc = .ok (.lreturn, 1)) (hq : Q (.inl (some (.long x))) M) : mx_W μ d pc ls [.long x] M Q := by
  intro Γ p l e R s m args below meth c a0 n0 H locs cells slots ad la C A L
  exact mx_Wq (W.lret C.1 C.2.1 (C.2.2.2.2.1.trans hr) (fun t ht _ => ⟨rfl, ht⟩) A.2.1.2.2 hd C.2.2.2.2.2.1) (mx_end A hq)
theorem mx_vret {μ : mx_Me} {d pc : Nat} {ls : List Value} {M : mx_M} {Q : mx_O → mx_M → Prop} (hr : μ.2.2.2.1 = none) (hd : decode μ.2.1 pc = .ok (.return_, 1)) (hq : Q (.inl none) M) : mx_W μ d pc ls [] M Q := by
  intro Γ p l e R s m args below meth c a0 n0 H locs cells slots ad la C A L
  exact mx_Wq (W.vret C.1 C.2.1 (C.2.2.2.2.1.trans hr) (fun t ht _ => ⟨rfl, ht⟩) A.2.1.2.2 hd C.2.2.2.2.2.1) (mx_end A hq)
theorem mx_aret {μ : mx_Me} {d pc : Nat} {ls : List Value} {M : mx_M} {Q : mx_O → mx_M → Prop} {r : Nat} {rt : FieldType} (hr : μ.2.2.2.1 = some rt) (hrt : (∃ n, rt = .object n) ∨ ∃ t, rt = .array t) (hd : decode μ.2.1 pc = .ok (.areturn, 1)) (hq : Q (.inl (some (.ref r))) M) : mx_W μ d pc ls [.ref r] M Q := by
  intro Γ p l e R s m args below meth c a0 n0 H locs cells slots ad la C A L
  exact mx_Wq (W.aret C.1 C.2.1 (C.2.2.2.2.1.trans hr) hrt (by cases r with | zero => exact Or.inl rfl | succ r => exact Or.inr ⟨_, rfl⟩) (fun t ht _ => ⟨rfl, ht⟩) A.2.1.2.2 hd C.2.2.2.2.2.1) (mx_end A hq)
/-! throw new E("text") -/
theorem mx_throw {μ : mx_Me} {d pc : Nat} {ls st : List Value} {M : mx_M} {Q : mx_O → mx_M → Prop} (E : String) (i ik is ic : Nat) {tx : String} (hi : i < 33) (hc : mx_txt.getD i ("", 0, "") = (μ.1, is, tx)) (hE : Bundle.fit E = true) (hk : Cond.classLink μ.1 ik E ∈ lw_tbl) (hini : Cond.initialized E ∈ lw_tbl)
    (hat : ∀ w ∈ vx_atS μ.1 ic E ["java/lang/RuntimeException", "java/lang/Exception"], w ∈ mx_tb) (hot : ∀ w ∈ vx_atS μ.1 ic E ["java/lang/RuntimeException", "java/lang/Exception"], vx_ot w = true)
    (d0 : decode μ.2.1 pc = .ok (.new ik, 3)) (d3 : decode μ.2.1 (pc + 3) = .ok (.dup, 1)) (d4 : decode μ.2.1 (pc + 4) = .ok (.ldc is, 2)) (d6 : decode μ.2.1 (pc + 6) = .ok (.invokespecial ic, 3)) (d9 : decode μ.2.1 (pc + 9) = .ok (.athrow, 1))
    (hex : μ.2.2.2.2.1 = []) (hst : (st.map fun v => v.category).sum ≤ 64) (h1 : 1 ≤ (mx_rm M).1) (h2 : 6 ≤ (mx_rm M).2)
    (hq : Q (.inr E) (mx_sh M, mx_I M, mx_J M, mx_R M, ((mx_rm M).1 - 1, (mx_rm M).2 - 6), mx_scr M)) : mx_W μ d pc ls st M Q := by
  intro Γ p l e R s m args below meth c a0 n0 H locs cells slots ad la C A L
  have h3 := C.2.2.2.2.2.2.2.2.2.2.2.2.1 i hi
  rw [hc] at h3
  have hts := mx_tb_of C.2.2.2.2.2.2.2.2.2.2.1 args
  obtain ⟨hx, hb, hml, hown, hr, hlocks, hexc, ⟨hl, hnam⟩, hfr, hlo, hT, hK, -, -, hU, hN, -, -, -, -, -, -⟩ := id C
  have hcat : ((st.map (mx_tv Γ ad)).map fun v => v.category).sum ≤ 64 := by
    rw [List.map_map]
    have : ((fun v : Value => v.category) ∘ mx_tv Γ ad) = fun v => v.category := by funext v; exact mx_cat Γ ad v
    rw [this]; exact hst
  have k := vx_throwS (p := p) (l := l) (e := e) (R := R) (s := s) (m := m) (args := args) (below := below) (meth := meth) (c := c) (H := H) (locs := locs) (cells := cells) (slots := slots) (pc := pc) (ls := la) (rest := st.map (mx_tv Γ ad)) (Qc := fun _ _ _ _ => False) (free := mx_A Γ) (mc := cells + 1) (ms := slots + 6)
    (XC := fun E9 _ t => E9 = E ∧ H.size ≤ t.heap.size ∧ ∀ q : Nat, q < H.size → t.heap[q]? = H[q]?) hx hb hl hown hE (by decide) (hT _ hk rfl args) (hT _ hini rfl args) h3 (fun w hw => hts w (hat w hw)) (fun w hw => ?_) hU hN A.2.1 (L.1.trans hml.symm) d0 d3 d4 d6 d9 (by rw [hexc, hex]; intro x hx; cases hx)
    (by show 2 + 3 < R.frames; omega) (by show _ + (13 * (2 + 1) + 43) ≤ R.locals; omega) (by have := A.2.2.1; omega) (by have := A.2.2.2.1; omega) hlocks (fun t _ h5 h6 => ⟨rfl, h5, h6⟩) A.2.1.2.2 (Nat.le_refl _) (Nat.le_refl _)
  · refine mx_Wq k ?_
    intro t ⟨o, g1, g2, g3⟩
    rcases g3 with ⟨hf, -⟩ | ⟨q, ho, E9, ce, L9, ⟨rfl, hz, hh⟩, hce, hcv, hcc, hW, hsm, hL9⟩
    · exact hf.elim
    · refine ⟨o, .inr _, (mx_sh M, mx_I M, mx_J M, mx_R M, ((mx_rm M).1 - 1, (mx_rm M).2 - 6), mx_scr M), ad, L9, cells + 1, slots + 6, g1, g2, ⟨q, ce, ho, hce, hcv, hcc⟩, ⟨⟨A.1.1.kept (fun k9 q9 h9 => hh _ (A.1.1 k9 q9 h9).lt), A.1.2⟩, ⟨Nat.le_trans A.2.1.1 hz, fun q9 a1 a2 => by rw [hh q9 (Nat.lt_of_lt_of_le a1 A.2.1.1)]; exact A.2.1.2.1 q9 a1 a2, hL9⟩, ?_, ?_, A.2.2.2.2.1, A.2.2.2.2.2⟩, hW, hsm, rfl, hq⟩
      · show cells + 1 + ((mx_rm M).1 - 1) ≤ R.cells
        have := A.2.2.1; omega
      · show slots + 6 + ((mx_rm M).2 - 6) ≤ R.slots
        have := A.2.2.2.1; omega
  · rcases List.mem_cons.mp hw with e9 | hw
    · subst e9; rfl
    · rcases List.mem_cons.mp hw with e9 | hw
      · subst e9; rfl
      · exact hot w hw
