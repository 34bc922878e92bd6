/-! fields, arrays, ends, throws -/
def mx_tb : List Cond := lw_tbl.filter mx_keep
theorem mx_tb_of {s : State} (h : mx_T s) (args : Array Value) : ∀ w ∈ mx_tb, w.before args s = true := fun w hw => h w (List.mem_filter.mp hw).1 (List.mem_filter.mp hw).2 args
theorem mx_tb_in {w : Cond} (h : w ∈ lw_tbl) (hk : mx_keep w = true) : w ∈ mx_tb := List.mem_filter.mpr ⟨h, hk⟩
theorem mx_lay0 : ∀ w ∈ u_ws RX0 TX0 2, w ∈ mx_tb := by decide +kernel
theorem mx_lay1 : ∀ w ∈ u_ws RX1 TX1 14, w ∈ mx_tb := by decide +kernel
theorem mx_lay2 : ∀ w ∈ u_ws RX2 TX2 5, w ∈ mx_tb := by decide +kernel
theorem mx_lay3 : ∀ w ∈ u_ws RX3 TX3 10, w ∈ mx_tb := by decide +kernel
theorem mx_lay4 : ∀ w ∈ u_ws RX4 TX4 5, w ∈ mx_tb := by decide +kernel
theorem mx_lay5 : ∀ w ∈ u_ws RX5 TX5 2, w ∈ mx_tb := by decide +kernel
theorem mx_lay6 : ∀ w ∈ u_ws RX6 TX6 2, w ∈ mx_tb := by decide +kernel
theorem mx_lay7 : ∀ w ∈ u_ws RX7 TX7 6, w ∈ mx_tb := by decide +kernel
theorem mx_lay8 : ∀ w ∈ u_ws RX8 TX8 7, w ∈ mx_tb := by decide +kernel
theorem mx_lay10 : ∀ w ∈ u_ws RX10 TX10 17, w ∈ mx_tb := by decide +kernel
theorem mx_lay11 : ∀ w ∈ u_ws RX11 TX11 64, w ∈ mx_tb := by decide +kernel
/-- of each class: its words, its fields' types, their names apart -/
def mx_Ok (ci : Nat) (q : vw_C) : Prop := (∀ w ∈ u_ws q.1 q.2.1 q.2.2, w ∈ mx_tb) ∧ (∀ k, k < q.2.2 → parseFieldDescriptor (q.2.1 k).2.2.1 = some (mx_ct ci k)) ∧ (∀ a, a < q.2.2 → ∀ b, b < q.2.2 → a ≠ b → (q.2.1 a).2.1 ≠ (q.2.1 b).2.1)
theorem mx_ok : ∀ (ci : Nat) (q : vw_C), vwCl[ci]? = some q → mx_Ok ci q := by
  intro ci q h
  match ci, h with
  | 0, h => cases h; exact ⟨mx_lay0, tyX0_ok, nmX0⟩
  | 1, h => cases h; exact ⟨mx_lay1, tyX1_ok, nmX1⟩
  | 2, h => cases h; exact ⟨mx_lay2, tyX2_ok, nmX2⟩
  | 3, h => cases h; exact ⟨mx_lay3, tyX3_ok, nmX3⟩
  | 4, h => cases h; exact ⟨mx_lay4, tyX4_ok, nmX4⟩
  | 5, h => cases h; exact ⟨mx_lay5, tyX5_ok, nmX5⟩
  | 6, h => cases h; exact ⟨mx_lay6, tyX6_ok, nmX6⟩
  | 7, h => cases h; exact ⟨mx_lay7, tyX7_ok, nmX7⟩
  | 8, h => cases h; exact ⟨mx_lay8, tyX8_ok, nmX8⟩
  | 9, h => cases h; exact ⟨mx_lay10, tyX10_ok, nmX10⟩
  | 10, h => cases h; exact ⟨mx_lay11, tyX11_ok, nmX11⟩
  | n + 11, h => simp at h
/-- the shape of what a reference names -/
def mx_shp (M : mx_M) : Nat → Option mx_S
  | 0 => none
  | k + 1 => (mx_sh M)[k]?
/-- a field's place in the pool: the j-th field of the class ci -/
def mx_Fs (own : String) (index ci j : Nat) : Prop := ∃ q : vw_C, vwCl[ci]? = some q ∧ j < q.2.2 ∧ (Cond.fieldLink own index (q.2.1 j).1 (q.2.1 j).2.1 (q.2.1 j).2.2.1 ∈ mx_tb ∨ ∃ host, Cond.fieldLinkNest own index (q.2.1 j).1 (q.2.1 j).2.1 (q.2.1 j).2.2.1 host ∈ mx_tb)
theorem mx_fs_row {n j : Nat} {f : Nat → Value} (h : j < n) : ((List.range n).map f)[j]? = some (f j) := by
  rw [List.getElem?_map, List.getElem?_range h]; rfl
theorem mx_cn_of {ci : Nat} {q : vw_C} (h : vwCl[ci]? = some q) : mx_cn ci = q.2.2 := by
  unfold mx_cn
  rw [h]
theorem mx_getV {μ : mx_Me} {d pc n : Nat} {ls st : List Value} {M : mx_M} {Q : mx_O → mx_M → Prop} {index ci j r : Nat} {v : Value} (hf : mx_Fs μ.1 index ci j) (hs : mx_shp M r = some (.inl ci)) (hd : decode μ.2.1 pc = .ok (.getfield index, 3)) (hn : pc + 3 = n)
    (hv : ∀ (Γ : mx_G) (ad : Nat → Nat), mx_fv (mx_ct ci j) (mx_I M r j) (mx_J M r j) (mx_ra ad (mx_R M r j)) = mx_tv Γ ad v) (k : mx_W μ d n ls (v :: st) M Q) : mx_W μ d pc ls (.ref r :: st) M Q := by
  subst hn
  intro Γ p l e R s m args below meth c a0 n0 H locs cells slots ad la C A L
  obtain ⟨q, hq, hj, hlk⟩ := hf
  obtain ⟨hin, -, -⟩ := mx_ok ci q hq
  cases r with
  | zero => cases hs
  | succ r =>
    have he := mx_ws_at (Γ := Γ) (ad := ad) hs
    have hts := mx_tb_of C.2.2.2.2.2.2.2.2.2.2.1 args
    have hfs : ((List.range (mx_cn ci)).map (fun j => mx_fv (mx_ct ci j) (mx_I M (r + 1) j) (mx_J M (r + 1) j) (mx_ra ad (mx_R M (r + 1) j))))[j]? = some (mx_tv Γ ad v) := by
      rw [mx_fs_row (by rw [mx_cn_of hq]; exact hj), hv Γ ad]
    rcases hlk with h | ⟨host, h⟩
    · exact va_get (D := mx_D Γ) (ci := ci) (C := q.1) (T := q.2.1) (N := q.2.2) C.1 C.2.1 hts hin C.2.2.2.1 C.2.2.2.2.2.2.2.2.2.2.2.1 A.1.1 r he hq j hj (hts _ h) (fun _ h9 => h9) hfs hd (k Γ p l e R s m args below meth c a0 n0 H locs cells slots ad la C A L)
    · exact va_getN (D := mx_D Γ) (ci := ci) (C := q.1) (T := q.2.1) (N := q.2.2) C.1 C.2.1 hts hin C.2.2.2.1 C.2.2.2.2.2.2.2.2.2.2.2.1 A.1.1 r he hq j hj (hts _ h) (fun _ h9 => h9) hfs hd (k Γ p l e R s m args below meth c a0 n0 H locs cells slots ad la C A L)
def mx_kI (ty : FieldType) : Bool := match ty with
  | .long => false
  | .object _ => false
  | .array _ => false
  | _ => true
def mx_kR (ty : FieldType) : Bool := match ty with
  | .object _ => true
  | .array _ => true
  | _ => false
theorem mx_fvI {ty : FieldType} (h : mx_kI ty = true) (x : Int32) (y : Int64) (r : Value) : mx_fv ty x y r = .int x := by
  cases ty <;> first | rfl | cases h
theorem mx_fvR {ty : FieldType} (h : mx_kR ty = true) (x : Int32) (y : Int64) (r : Value) : mx_fv ty x y r = r := by
  cases ty <;> first | rfl | cases h
theorem mx_getI {μ : mx_Me} {d pc n : Nat} {ls st : List Value} {M : mx_M} {Q : mx_O → mx_M → Prop} {index ci j r : Nat} (hf : mx_Fs μ.1 index ci j) (ht : mx_kI (mx_ct ci j) = true) (hs : mx_shp M r = some (.inl ci)) (hd : decode μ.2.1 pc = .ok (.getfield index, 3)) (hn : pc + 3 = n) (k : mx_W μ d n ls (.int (mx_I M r j) :: st) M Q) : mx_W μ d pc ls (.ref r :: st) M Q :=
  mx_getV hf hs hd hn (fun Γ ad => mx_fvI ht _ _ _) k
theorem mx_getJ {μ : mx_Me} {d pc n : Nat} {ls st : List Value} {M : mx_M} {Q : mx_O → mx_M → Prop} {index ci j r : Nat} (hf : mx_Fs μ.1 index ci j) (ht : mx_ct ci j = .long) (hs : mx_shp M r = some (.inl ci)) (hd : decode μ.2.1 pc = .ok (.getfield index, 3)) (hn : pc + 3 = n) (k : mx_W μ d n ls (.long (mx_J M r j) :: st) M Q) : mx_W μ d pc ls (.ref r :: st) M Q :=
  mx_getV hf hs hd hn (fun Γ ad => by rw [ht]; rfl) k
theorem mx_getR {μ : mx_Me} {d pc n : Nat} {ls st : List Value} {M : mx_M} {Q : mx_O → mx_M → Prop} {index ci j r : Nat} (v : Nat) (hf : mx_Fs μ.1 index ci j) (ht : mx_kR (mx_ct ci j) = true) (hs : mx_shp M r = some (.inl ci)) (hv : mx_R M r j = v) (hd : decode μ.2.1 pc = .ok (.getfield index, 3)) (hn : pc + 3 = n) (k : mx_W μ d n ls (.ref v :: st) M Q) : mx_W μ d pc ls (.ref r :: st) M Q :=
  mx_getV hf hs hd hn (fun Γ ad => by rw [mx_fvR ht, hv]; rfl) k
/-- a field is written: the world behind it -/
theorem mx_putV {μ : mx_Me} {d pc n : Nat} {ls st : List Value} {M : mx_M} (M2 : mx_M) {Q : mx_O → mx_M → Prop} {index ci j r : Nat} {v : Value} (hf : mx_Fs μ.1 index ci j) (hs : mx_shp M r = some (.inl ci)) (hd : decode μ.2.1 pc = .ok (.putfield index, 3)) (hn : pc + 3 = n)
    (hfin : (match vwCl[ci]? with | some q => (q.2.1 j).2.2.2 | none => true) = false) (hnar : ∀ (Γ : mx_G) (ad : Nat → Nat), narrow (mx_ct ci j) (mx_tv Γ ad v) = mx_tv Γ ad v ∧ fits (mx_ct ci j) (mx_tv Γ ad v) = true)
    (e1 : mx_sh M2 = mx_sh M) (e2 : mx_rm M2 = mx_rm M) (e3 : mx_scr M2 = mx_scr M) (hI : ∀ a, a ≠ r → mx_I M2 a = mx_I M a) (hJ : ∀ a, a ≠ r → mx_J M2 a = mx_J M a) (hR : ∀ a, a ≠ r → mx_R M2 a = mx_R M a)
    (hrow : ∀ (Γ : mx_G) (ad : Nat → Nat) (i : Nat), mx_fv (mx_ct ci i) (mx_I M2 r i) (mx_J M2 r i) (mx_ra ad (mx_R M2 r i)) = if i = j then mx_tv Γ ad v else mx_fv (mx_ct ci i) (mx_I M r i) (mx_J M r i) (mx_ra ad (mx_R M r i)))
    (hib : (∀ k j, mx_R M k j ≤ (mx_sh M).length) → ∀ k j, mx_R M2 k j ≤ (mx_sh M2).length) (k : mx_W μ d n ls st M2 Q) : mx_W μ d pc ls (v :: .ref r :: st) M Q := by
  subst hn
  intro Γ p l e R s m args below meth c a0 n0 H locs cells slots ad la C A L
  obtain ⟨q, hq, hj, hlk⟩ := hf
  obtain ⟨hin, hty, hnm⟩ := mx_ok ci q hq
  rw [hq] at hfin
  cases r with
  | zero => cases hs
  | succ r =>
    have he := mx_ws_at (Γ := Γ) (ad := ad) hs
    have hts := mx_tb_of C.2.2.2.2.2.2.2.2.2.2.1 args
    have hjn : j < mx_cn ci := by rw [mx_cn_of hq]; exact hj
    have hset : mx_ws Γ ad M2 = (mx_ws Γ ad M).set r (ad r, .inr (ci, ((List.range (mx_cn ci)).map (fun j => mx_fv (mx_ct ci j) (mx_I M (r + 1) j) (mx_J M (r + 1) j) (mx_ra ad (mx_R M (r + 1) j)))).set j (mx_tv Γ ad v))) := by
      rw [mx_ws_set hs e1 hI hJ hR, mx_row_set hjn (fun i _ => hrow Γ ad i)]
      rfl
    have go : ∀ (H1 : Heap) (locs1 : List Loc), va_P (mx_D Γ) vwCl ((mx_ws Γ ad M).set r (ad r, .inr (ci, ((List.range (mx_cn ci)).map (fun j => mx_fv (mx_ct ci j) (mx_I M (r + 1) j) (mx_J M (r + 1) j) (mx_ra ad (mx_R M (r + 1) j)))).set j (mx_tv Γ ad v)))) H1 →
        va_D (mx_A Γ) ((mx_ws Γ ad M).set r (ad r, .inr (ci, ((List.range (mx_cn ci)).map (fun j => mx_fv (mx_ct ci j) (mx_I M (r + 1) j) (mx_J M (r + 1) j) (mx_ra ad (mx_R M (r + 1) j)))).set j (mx_tv Γ ad v)))) → va_S (mx_A Γ) s.heap H1 locs1 →
        W p l e R s m args below meth c H1 locs1 cells slots (mx_Fin Γ (mx_scr M) R s below a0 n0 Q) (F0 m (pc + 3) la (st.map (mx_tv Γ ad))) := by
      intro H1 locs1 hP hD hS
      rw [← hset] at hP hD
      have k9 := k Γ p l e R s m args below meth c a0 n0 H1 locs1 cells slots ad la (by rw [e3]; exact C) ⟨⟨hP, hD, hib A.1.2.2⟩, hS, by rw [e2]; exact A.2.2.1, by rw [e2]; exact A.2.2.2.1, by rw [e1]; exact A.2.2.2.2.1, by rw [e1]; exact A.2.2.2.2.2⟩ L
      rw [e3] at k9
      exact k9
    rcases hlk with h | ⟨host, h⟩
    · exact va_put (D := mx_D Γ) (ci := ci) (C := q.1) (T := q.2.1) (N := q.2.2) C.1 C.2.1 hts hin (mx_ct ci) hty hnm C.2.2.2.1 C.2.2.2.2.2.2.2.2.2.2.2.1 A.1.1 A.1.2.1 A.2.1 r he hq j hj (hts _ h) (fun _ h9 => h9) hfin (hty j hj) (hnar Γ ad).1 (hnar Γ ad).2 (by simpa using hjn) hd go
    · exact va_putN (D := mx_D Γ) (ci := ci) (C := q.1) (T := q.2.1) (N := q.2.2) C.1 C.2.1 hts hin (mx_ct ci) hty hnm C.2.2.2.1 C.2.2.2.2.2.2.2.2.2.2.2.1 A.1.1 A.1.2.1 A.2.1 r he hq j hj (hts _ h) (fun _ h9 => h9) hfin (hty j hj) (hnar Γ ad).1 (hnar Γ ad).2 (by simpa using hjn) hd go
/-- the j-th field of the class ci may be written anywhere -/
def mx_nf (ci j : Nat) : Bool := match vwCl[ci]? with
  | some q => !(q.2.1 j).2.2.2
  | none => false
theorem mx_nf_of {ci j : Nat} (h : mx_nf ci j = true) : (match vwCl[ci]? with | some q => (q.2.1 j).2.2.2 | none => true) = false := by
  unfold mx_nf at h
  split at h <;> simp_all
theorem mx_fitsI {ty : FieldType} (h : mx_kI ty = true) (x : Int32) (hx : narrow ty (.int x) = .int x) (h8 : fits ty (.int x) = true) (Γ : mx_G) (ad : Nat → Nat) : narrow ty (mx_tv Γ ad (.int x)) = mx_tv Γ ad (.int x) ∧ fits ty (mx_tv Γ ad (.int x)) = true := ⟨hx, h8⟩
theorem mx_putI {μ : mx_Me} {d pc n : Nat} {ls st : List Value} {M : mx_M} {Q : mx_O → mx_M → Prop} {index ci j r : Nat} {x : Int32} (hf : mx_Fs μ.1 index ci j) (ht : mx_kI (mx_ct ci j) = true) (hs : mx_shp M r = some (.inl ci)) (hw : mx_nf ci j = true) (hx : narrow (mx_ct ci j) (.int x) = .int x) (h8 : fits (mx_ct ci j) (.int x) = true) (hd : decode μ.2.1 pc = .ok (.putfield index, 3)) (hn : pc + 3 = n)
    (k : mx_W μ d n ls st (mx_setI M r j x) Q) : mx_W μ d pc ls (.int x :: .ref r :: st) M Q := by
  refine mx_putV (mx_setI M r j x) hf hs hd hn (mx_nf_of hw) (fun Γ ad => ⟨hx, h8⟩) rfl rfl rfl (fun a ha => mx_up_off _ _ ha) (fun a ha => rfl) (fun a ha => rfl) (fun Γ ad i => ?_) (fun h => h) k
  show mx_fv (mx_ct ci i) (mx_up (mx_I M) r j x r i) (mx_J M r i) (mx_ra ad (mx_R M r i)) = _
  rw [mx_up_on]
  by_cases h : i = j
  · subst h
    rw [if_pos rfl, mx_fvI ht]
    simp [mx_tv]
  · rw [if_neg h]; dsimp only; rw [if_neg h]
theorem mx_putJ {μ : mx_Me} {d pc n : Nat} {ls st : List Value} {M : mx_M} {Q : mx_O → mx_M → Prop} {index ci j r : Nat} {x : Int64} (hf : mx_Fs μ.1 index ci j) (ht : mx_ct ci j = .long) (hs : mx_shp M r = some (.inl ci)) (hw : mx_nf ci j = true) (hd : decode μ.2.1 pc = .ok (.putfield index, 3)) (hn : pc + 3 = n)
    (k : mx_W μ d n ls st (mx_setJ M r j x) Q) : mx_W μ d pc ls (.long x :: .ref r :: st) M Q := by
  refine mx_putV (mx_setJ M r j x) hf hs hd hn (mx_nf_of hw) (fun Γ ad => by rw [ht]; exact ⟨rfl, rfl⟩) rfl rfl rfl (fun a ha => rfl) (fun a ha => mx_up_off _ _ ha) (fun a ha => rfl) (fun Γ ad i => ?_) (fun h => h) k
  show mx_fv (mx_ct ci i) (mx_I M r i) (mx_up (mx_J M) r j x r i) (mx_ra ad (mx_R M r i)) = _
  rw [mx_up_on]
  by_cases h : i = j
  · subst h
    rw [if_pos rfl, ht]
    simp [mx_tv, mx_fv]
  · rw [if_neg h]; dsimp only; rw [if_neg h]
theorem mx_raFits {ty : FieldType} (h : mx_kR ty = true) (ad : Nat → Nat) (v : Nat) : narrow ty (mx_ra ad v) = mx_ra ad v ∧ fits ty (mx_ra ad v) = true := by
  cases ty <;> first | (cases h; done) | (cases v <;> exact ⟨rfl, rfl⟩)
theorem mx_putR {μ : mx_Me} {d pc n : Nat} {ls st : List Value} {M : mx_M} {Q : mx_O → mx_M → Prop} {index ci j r v : Nat} (hv9 : v ≤ (mx_sh M).length) (hf : mx_Fs μ.1 index ci j) (ht : mx_kR (mx_ct ci j) = true) (hs : mx_shp M r = some (.inl ci)) (hw : mx_nf ci j = true) (hd : decode μ.2.1 pc = .ok (.putfield index, 3)) (hn : pc + 3 = n)
    (k : mx_W μ d n ls st (mx_setR M r j v) Q) : mx_W μ d pc ls (.ref v :: .ref r :: st) M Q := by
  refine mx_putV (mx_setR M r j v) hf hs hd hn (mx_nf_of hw) (fun Γ ad => mx_raFits ht ad v) rfl rfl rfl (fun a ha => rfl) (fun a ha => rfl) (fun a ha => mx_up_off _ _ ha) (fun Γ ad i => ?_) (fun h a b => by
    show mx_up (mx_R M) r j v a b ≤ (mx_sh M).length
    unfold mx_up
    split
    · exact hv9
    · exact h a b) k
  show mx_fv (mx_ct ci i) (mx_I M r i) (mx_J M r i) (mx_ra ad (mx_up (mx_R M) r j v r i)) = _
  rw [mx_up_on]
  by_cases h : i = j
  · subst h
    rw [if_pos rfl, mx_fvR ht]
    simp [mx_tv]
  · rw [if_neg h]; dsimp only; rw [if_neg h]
