/-! cells are made: objects, arrays; constructors -/
def mx_vr (n : Nat) : Value → Bool
  | .ref r => decide (r ≤ n)
  | _ => true
theorem mx_ra_ext {ad ad2 : Nat → Nat} {n r : Nat} (h : ∀ i, i < n → ad2 i = ad i) (hr : r ≤ n) : mx_ra ad2 r = mx_ra ad r := by
  cases r with
  | zero => rfl
  | succ r => show Value.ref (ad2 r) = Value.ref (ad r); rw [h r (by omega)]
theorem mx_tv_ext {Γ : mx_G} {ad ad2 : Nat → Nat} {n : Nat} {v : Value} (h : ∀ i, i < n → ad2 i = ad i) (hv : mx_vr n v = true) : mx_tv Γ ad2 v = mx_tv Γ ad v := by
  cases v with
  | ref r => exact mx_ra_ext h (of_decide_eq_true hv)
  | _ => rfl
theorem mx_ts_ext {Γ : mx_G} {ad ad2 : Nat → Nat} {n : Nat} {st : List Value} (h : ∀ i, i < n → ad2 i = ad i) (hv : st.all (mx_vr n) = true) : st.map (mx_tv Γ ad2) = st.map (mx_tv Γ ad) := List.map_congr_left (fun v hv9 => mx_tv_ext h (List.all_eq_true.mp hv v hv9))
theorem mx_L_ext {Γ : mx_G} {ad ad2 : Nat → Nat} {n nL : Nat} {ls : List Value} {la : Array Slot} (h : ∀ i, i < n → ad2 i = ad i) (hv : ls.all (mx_vr n) = true) (L : mx_L Γ ad nL ls la) : mx_L Γ ad2 nL ls la := by
  refine ⟨L.1, L.2.1, L.2.2.1, fun i v hi hn => ?_⟩
  rw [mx_tv_ext h (List.all_eq_true.mp hv v (List.mem_of_getElem? hi))]
  exact L.2.2.2 i v hi hn
def mx_zr {α : Type} (f : Nat → Nat → α) (k : Nat) (v : α) : Nat → Nat → α := fun a => if a = k then fun _ => v else f a
/-- a new cell: its number is the next one -/
def mx_newM (M : mx_M) (s : mx_S) (N : Nat) : mx_M := (mx_sh M ++ [s], mx_zr (mx_I M) ((mx_sh M).length + 1) 0, mx_zr (mx_J M) ((mx_sh M).length + 1) 0, mx_zr (mx_R M) ((mx_sh M).length + 1) 0, ((mx_rm M).1 - 1, (mx_rm M).2 - N), mx_scr M)
theorem mx_ws_new {Γ : mx_G} {ad : Nat → Nat} {M : mx_M} {s : mx_S} {N q : Nat} (hib : ∀ k j, mx_R M k j ≤ (mx_sh M).length) :
    mx_ws Γ (fun k => if k = (mx_sh M).length then q else ad k) (mx_newM M s N) = mx_ws Γ ad M ++ [(q, mx_cell Γ (fun k => if k = (mx_sh M).length then q else ad k) s (fun _ => 0) (fun _ => 0) (fun _ => 0))] := by
  apply List.ext_getElem?
  intro i
  have hl : (mx_sh (mx_newM M s N)) = mx_sh M ++ [s] := rfl
  rcases Nat.lt_trichotomy i (mx_sh M).length with h | h | h
  · rw [List.getElem?_append_left (by rw [mx_ws_len]; exact h)]
    obtain ⟨s9, hs9⟩ : ∃ s9, (mx_sh M)[i]? = some s9 := ⟨_, List.getElem?_eq_getElem h⟩
    rw [mx_ws_at (M := mx_newM M s N) (s := s9) (by rw [hl, List.getElem?_append_left h]; exact hs9), mx_ws_at hs9]
    have e1 : mx_I (mx_newM M s N) (i + 1) = mx_I M (i + 1) := if_neg (by omega)
    have e2 : mx_J (mx_newM M s N) (i + 1) = mx_J M (i + 1) := if_neg (by omega)
    have e3 : mx_R (mx_newM M s N) (i + 1) = mx_R M (i + 1) := if_neg (by omega)
    rw [e1, e2, e3]
    have e4 : ∀ j, mx_ra (fun k => if k = (mx_sh M).length then q else ad k) (mx_R M (i + 1) j) = mx_ra ad (mx_R M (i + 1) j) := fun j => mx_ra_ext (n := (mx_sh M).length) (fun k hk => if_neg (by omega)) (hib _ _)
    have e5 : (if i = (mx_sh M).length then q else ad i) = ad i := if_neg (by omega)
    rw [e5]
    congr 2
    unfold mx_cell
    cases s9 with
    | inl ci => simp only [e4]
    | inr x => rfl
  · subst h
    rw [List.getElem?_append_right (by rw [mx_ws_len]; exact Nat.le_refl _), mx_ws_len, Nat.sub_self, List.getElem?_cons_zero, mx_ws_at (M := mx_newM M s N) (s := s) (by rw [hl, List.getElem?_append_right (Nat.le_refl _), Nat.sub_self]; rfl)]
    have e1 : mx_I (mx_newM M s N) ((mx_sh M).length + 1) = fun _ => 0 := if_pos rfl
    have e2 : mx_J (mx_newM M s N) ((mx_sh M).length + 1) = fun _ => 0 := if_pos rfl
    have e3 : mx_R (mx_newM M s N) ((mx_sh M).length + 1) = fun _ => 0 := if_pos rfl
    rw [e1, e2, e3]
    simp
  · rw [List.getElem?_eq_none_iff.mpr (by rw [mx_ws_len, hl, List.length_append]; simp; omega), List.getElem?_eq_none_iff.mpr (by rw [List.length_append, mx_ws_len]; simp; omega)]
theorem mx_At_new {Γ : mx_G} {R : Room} {s : State} {a0 : Nat → Nat} {n0 : Nat} {M : mx_M} {H H1 : Heap} {locs : List Loc} {cells slots : Nat} {ad : Nat → Nat} {sp : mx_S} {N q : Nat} (A : mx_At Γ R s a0 n0 M H locs cells slots ad) (hr1 : 1 ≤ (mx_rm M).1) (hr2 : N ≤ (mx_rm M).2)
    (hP : va_P (mx_D Γ) vwCl (mx_ws Γ ad M ++ [(q, mx_cell Γ (fun k => if k = (mx_sh M).length then q else ad k) sp (fun _ => 0) (fun _ => 0) (fun _ => 0))]) H1) (hD : va_D (mx_A Γ) (mx_ws Γ ad M ++ [(q, mx_cell Γ (fun k => if k = (mx_sh M).length then q else ad k) sp (fun _ => 0) (fun _ => 0) (fun _ => 0))])) (hS : va_S (mx_A Γ) s.heap H1 locs) :
    mx_At Γ R s a0 n0 (mx_newM M sp N) H1 locs (cells + 1) (slots + N) (fun k => if k = (mx_sh M).length then q else ad k) := by
  rw [← mx_ws_new (N := N) A.1.2.2] at hP hD
  have hl : (mx_sh (mx_newM M sp N)).length = (mx_sh M).length + 1 := by show (mx_sh M ++ [sp]).length = _; simp
  refine ⟨⟨hP, hD, fun k j => ?_⟩, hS, ?_, ?_, fun i hi => ?_, ?_⟩
  · rw [hl]
    show mx_zr (mx_R M) ((mx_sh M).length + 1) 0 k j ≤ _
    unfold mx_zr
    split
    · exact Nat.zero_le _
    · exact Nat.le_succ_of_le (A.1.2.2 k j)
  · show cells + 1 + ((mx_rm M).1 - 1) ≤ R.cells
    have := A.2.2.1; omega
  · show slots + N + ((mx_rm M).2 - N) ≤ R.slots
    have := A.2.2.2.1; omega
  · rw [hl] at hi
    have h6 := A.2.2.2.2.2
    have h7 : i ≠ (mx_sh M).length := by omega
    show (if i = (mx_sh M).length then q else ad i) = a0 i
    rw [if_neg h7]
    exact A.2.2.2.2.1 i (by omega)
  · rw [hl]
    exact Nat.le_succ_of_le A.2.2.2.2.2
theorem mx_nofl : ∀ (ci : Nat) (q : vw_C), vwCl[ci]? = some q → ∀ j, j < q.2.2 → mx_ct ci j ≠ .float ∧ mx_ct ci j ≠ .double := by
  intro ci q h
  match ci, h with
  | 0, h => cases h; exact (by decide +kernel : ∀ j, j < 2 → tyX0 j ≠ .float ∧ tyX0 j ≠ .double)
  | 1, h => cases h; exact (by decide +kernel : ∀ j, j < 14 → tyX1 j ≠ .float ∧ tyX1 j ≠ .double)
  | 2, h => cases h; exact (by decide +kernel : ∀ j, j < 5 → tyX2 j ≠ .float ∧ tyX2 j ≠ .double)
  | 3, h => cases h; exact (by decide +kernel : ∀ j, j < 10 → tyX3 j ≠ .float ∧ tyX3 j ≠ .double)
  | 4, h => cases h; exact (by decide +kernel : ∀ j, j < 5 → tyX4 j ≠ .float ∧ tyX4 j ≠ .double)
  | 5, h => cases h; exact (by decide +kernel : ∀ j, j < 2 → tyX5 j ≠ .float ∧ tyX5 j ≠ .double)
  | 6, h => cases h; exact (by decide +kernel : ∀ j, j < 2 → tyX6 j ≠ .float ∧ tyX6 j ≠ .double)
  | 7, h => cases h; exact (by decide +kernel : ∀ j, j < 6 → tyX7 j ≠ .float ∧ tyX7 j ≠ .double)
  | 8, h => cases h; exact (by decide +kernel : ∀ j, j < 7 → tyX8 j ≠ .float ∧ tyX8 j ≠ .double)
  | 9, h => cases h; exact (by decide +kernel : ∀ j, j < 17 → tyX10 j ≠ .float ∧ tyX10 j ≠ .double)
  | 10, h => cases h; exact (by decide +kernel : ∀ j, j < 64 → tyX11 j ≠ .float ∧ tyX11 j ≠ .double)
  | n + 11, h => simp at h
theorem mx_new {μ : mx_Me} {d pc n : Nat} {ls st : List Value} {M : mx_M} {Q : mx_O → mx_M → Prop} {index ci : Nat} (q : vw_C) (nl : Nat) (hq : vwCl[ci]? = some q) (hcl : Cond.classLink μ.1 index q.1 ∈ lw_tbl) (hinst : Cond.instantiable q.1 q.2.2 ∈ lw_tbl) (hini : Cond.initialized q.1 ∈ lw_tbl) (hr1 : 1 ≤ (mx_rm M).1) (hr2 : q.2.2 ≤ (mx_rm M).2) (hsl : (mx_sh M).length = nl) (hv : ls.all (mx_vr nl) = true) (hv2 : st.all (mx_vr nl) = true)
    (hd : decode μ.2.1 pc = .ok (.new index, 3)) (hn : pc + 3 = n) (k : mx_W μ d n ls (.ref (nl + 1) :: st) (mx_newM M (.inl ci) q.2.2) Q) : mx_W μ d pc ls st M Q := by
  subst hn
  subst hsl
  intro Γ p l e R s m args below meth c a0 n0 H locs cells slots ad la C A L
  obtain ⟨hx, hb, hml, hown, hr, hlocks, hexc, hst9, hfr, hlo, hE⟩ := id C
  obtain ⟨hin, hty, hnm⟩ := mx_ok ci q hq
  have hts := mx_tb_of hE.1 args
  have hA0 : ∀ q : Nat, s.heap.size ≤ q → mx_A Γ q := fun q h => Nat.le_trans hE.2.2.2.2.2.2.2.2.2.2.1 h
  refine va_new (D := mx_D Γ) (ci := ci) (C := q.1) (T := q.2.1) (N := q.2.2) (fs := (List.range q.2.2).map (fun j => mx_fv (mx_ct ci j) 0 0 .null)) hx hb hts hin (mx_ct ci) hty hown (hE.1 _ hcl rfl args) (hE.1 _ hinst rfl args) (hE.1 _ hini rfl args) hE.2.1 A.1.1 A.1.2.1 A.2.1 hA0 hq (fun j hj => ?_) (by have := A.2.2.1; omega) (by have := A.2.2.2.1; omega) hd (fun q9 H1 hP hD hS => ?_)
  · unfold vp_V
    rw [List.getD_eq_getElem?_getD, mx_fs_row hj]
    show defaultValue (mx_ct ci j) = mx_fv (mx_ct ci j) 0 0 .null
    have h8 := mx_nofl ci q hq j hj
    generalize mx_ct ci j = ty at h8 ⊢
    have : ty ≠ .float ∧ ty ≠ .double := h8
    cases ty <;> first | rfl | exact absurd rfl this.1 | exact absurd rfl this.2
  · have ec : ((q9, .inr (ci, (List.range q.2.2).map (fun j => mx_fv (mx_ct ci j) 0 0 .null))) : Nat × va_E) = (q9, mx_cell Γ (fun k => if k = (mx_sh M).length then q9 else ad k) (.inl ci) (fun _ => 0) (fun _ => 0) (fun _ => 0)) := by
      rw [← mx_cn_of hq]
      rfl
    rw [ec] at hP hD
    have hext : ∀ i, i < (mx_sh M).length → (fun k => if k = (mx_sh M).length then q9 else ad k) i = ad i := fun i hi => if_neg (by omega)
    have k9 := k Γ p l e R s m args below meth c a0 n0 H1 locs (cells + 1) (slots + q.2.2) (fun k => if k = (mx_sh M).length then q9 else ad k) la C (mx_At_new A hr1 hr2 hP hD hS) (mx_L_ext hext hv L)
    have es : (Value.ref ((mx_sh M).length + 1) :: st).map (mx_tv Γ (fun k => if k = (mx_sh M).length then q9 else ad k)) = Value.ref q9 :: st.map (mx_tv Γ ad) := by
      rw [List.map_cons, mx_ts_ext hext hv2]
      show Value.ref (if (mx_sh M).length = (mx_sh M).length then q9 else ad _) :: _ = _
      rw [if_pos rfl]
    rw [es] at k9
    exact k9

theorem mx_newA {μ : mx_Me} {d pc n : Nat} {ls st : List Value} {M : mx_M} {Q : mx_O → mx_M → Prop} {at9 : ArrayType} {ty : FieldType} {len : Int32} (nl N : Nat) (hty : newarray.typeOf at9 = ty) (hk9 : ty = .int ∨ ty = .long ∨ ty = .byte ∨ ty = .boolean) (hac : Cond.arrayClass ty ∈ lw_tbl) (hlen : ¬ len < 0) (hN : len.toNatClampNeg = N) (hsm : N ≤ 100000) (hr1 : 1 ≤ (mx_rm M).1) (hr2 : N ≤ (mx_rm M).2) (hsl : (mx_sh M).length = nl) (hv : ls.all (mx_vr nl) = true) (hv2 : st.all (mx_vr nl) = true)
    (hd : decode μ.2.1 pc = .ok (.newarray at9, 2)) (hn : pc + 2 = n) (k : mx_W μ d n ls (.ref (nl + 1) :: st) (mx_newM M (.inr (ty, N)) N) Q) : mx_W μ d pc ls (.int len :: st) M Q := by
  subst hn
  subst hsl
  intro Γ p l e R s m args below meth c a0 n0 H locs cells slots ad la C A L
  obtain ⟨hx, hb, hml, hown, hr, hlocks, hexc, hst9, hfr, hlo, hE⟩ := id C
  have hA0 : ∀ q : Nat, s.heap.size ≤ q → mx_A Γ q := fun q h => Nat.le_trans hE.2.2.2.2.2.2.2.2.2.2.1 h
  have hbytes : N * componentBytes ty ≤ 536870912 := by
    have : componentBytes ty ≤ 8 := by rcases hk9 with h | h | h | h <;> subst h <;> decide
    calc N * componentBytes ty ≤ 100000 * 8 := Nat.mul_le_mul hsm this
      _ ≤ 536870912 := by decide
  have harr : (Cond.arrayClass (newarray.typeOf at9)).before args s = true := by rw [hty]; exact hE.1 _ hac rfl args
  refine va_newa (D := mx_D Γ) hx hb harr hty hE.2.1 A.1.1 A.1.2.1 A.2.1 hA0 (a0 := (N, if ty = .long then .inr (.inl (fun _ => 0)) else .inl (fun _ => 0))) (fun cA => ?_) hlen hN hbytes (by have := A.2.2.1; omega) (by have := A.2.2.2.1; omega) hd (fun q9 cA H1 hK hP hD hS => ?_)
  · rcases hk9 with h | h | h | h <;> subst h <;> rfl
  · have hcA : cA = mx_ac Γ ty := by
      have h1 := (hK.2 4 (cA, ty) rfl).2
      rcases hk9 with h | h | h | h <;> subst h
      · have h2 := (hE.2.1.2 0 _ rfl).2
        exact Option.some.inj (Eq.trans (Eq.symm h1) h2)
      · have h2 := (hE.2.1.2 1 _ rfl).2
        exact Option.some.inj (Eq.trans (Eq.symm h1) h2)
      · have h2 := (hE.2.1.2 2 _ rfl).2
        exact Option.some.inj (Eq.trans (Eq.symm h1) h2)
      · have h2 := (hE.2.1.2 3 _ rfl).2
        exact Option.some.inj (Eq.trans (Eq.symm h1) h2)
    subst hcA
    have hext : ∀ i, i < (mx_sh M).length → (fun k => if k = (mx_sh M).length then q9 else ad k) i = ad i := fun i hi => if_neg (by omega)
    have k9 := k Γ p l e R s m args below meth c a0 n0 H1 locs (cells + 1) (slots + N) (fun k => if k = (mx_sh M).length then q9 else ad k) la C (mx_At_new (sp := .inr (ty, N)) A hr1 hr2 hP hD hS) (mx_L_ext hext hv L)
    have es : (Value.ref ((mx_sh M).length + 1) :: st).map (mx_tv Γ (fun k => if k = (mx_sh M).length then q9 else ad k)) = Value.ref q9 :: st.map (mx_tv Γ ad) := by
      rw [List.map_cons, mx_ts_ext hext hv2]
      show Value.ref (if (mx_sh M).length = (mx_sh M).length then q9 else ad _) :: _ = _
      rw [if_pos rfl]
    rw [es] at k9
    exact k9
theorem mx_objInit {μ : mx_Me} {d pc n : Nat} {ls st : List Value} {M : mx_M} {Q : mx_O → mx_M → Prop} {index r : Nat} (hlk : Cond.methodLink μ.1 index Lib.objectInit ∈ lw_tbl) (hin : Cond.instanceMethod Lib.objectInit ∈ lw_tbl) (hcd : Cond.code Lib.objectInit ⟨#[0xb1]⟩ 1 none ∈ lw_tbl) (hst : (st.map fun v => v.category).sum ≤ 12) (hd : decode μ.2.1 pc = .ok (.invokespecial index, 3)) (hn : pc + 3 = n) (k : mx_W μ d n ls st M Q) : mx_W μ d pc ls (.ref (r + 1) :: st) M Q := by
  subst hn
  intro Γ p l e R s m args below meth c a0 n0 H locs cells slots ad la C A L
  obtain ⟨hx, hb, hml, hown, hr, hlocks, hexc, hst9, hfr, hlo, hE⟩ := id C
  refine W.objInit hx hb hown (hE.1 _ hlk rfl args) (hE.1 _ hin rfl args) (hE.1 _ hcd rfl args) rfl (L.1.trans hml.symm) (a := ad r) (rest := st.map (mx_tv Γ ad)) rfl hd (by omega) ?_ (k Γ p l e R s m args below meth c a0 n0 H locs cells slots ad la C A L)
  have : (F0 m pc la ((.ref (r + 1) :: st).map (mx_tv Γ ad))).monitorRoom = 0 := rfl
  rw [mx_catsum]
  omega
/-- a constructor's call -/
theorem mx_backI {y : MethodName} {μ : mx_Me} {d : Nat} {as : List Value} {M : mx_M} {Q : mx_O → mx_M → Prop} (hno : ∀ E M1, ¬ Q (.inr E) M1) (hy : mx_Mt y μ) (hlen : (mx_en as).length ≤ μ.2.2.1) (hk : mx_W μ d 0 (mx_ent μ.2.2.1 as) [] M Q)
    {Γ : mx_G} {p : Program} {l : Launch} {e : Env} {R : Room} {s : State} {args : Array Value} {below : List Frame} {a0 ad : Nat → Nat} {n0 : Nat} (hx : p.tables.exec = Jvm.exec) (hE : mx_Env Γ (mx_scr M) s) (hst : l.stackTraces = false) (hfr : d + 1 + 16 ≤ R.frames) (hlo : 64 * (d + 1) + 512 ≤ R.locals) :
    Back l R p e below s args y 3 12 (fun P a => a = (as.map (mx_tv Γ ad)).toArray ∧ mx_At Γ R s a0 n0 M P.U.heap P.locs P.cells P.slots ad) (mx_Post Γ R s a0 n0 ad M Q) := by
  intro m meth c P g ig mk a X hg hsize hdg hW hn hp
  rcases mx_back (Γ := Γ) (ad := ad) (a0 := a0) (n0 := n0) hy hlen hk hx hE hst hfr hlo m meth c P g ig mk a X hg hsize hdg hW hn hp with h | ⟨q, B, X1, ⟨E, M1, ad1, ce, -, -, -, -, -, -, hQ⟩, -⟩
  · exact h
  · exact absurd hQ (hno E M1)
def mx_KI (μ : mx_Me) (d n : Nat) (ls st : List Value) (nl : Nat) (Q : mx_O → mx_M → Prop) : mx_O → mx_M → Prop
  | .inl none, M1 => nl ≤ (mx_sh M1).length ∧ mx_W μ d n ls st M1 Q
  | _, _ => False
set_option maxHeartbeats 1000000 in
theorem mx_callI {μ : mx_Me} {d pc n : Nat} {ls st : List Value} {M : mx_M} {Q : mx_O → mx_M → Prop} (y : MethodName) (μ2 : mx_Me) (nl : Nat) {index r : Nat} (hm : mx_Mt y μ2) (hlk : Cond.methodLink μ.1 index y ∈ lw_tbl ∨ ∃ host, Cond.methodLinkNest μ.1 index y host ∈ lw_tbl) (hin : Cond.instanceMethod y ∈ lw_tbl) (hy1 : y.name = "<init>") (hret : μ2.2.2.2.1 = none)
    (hnp : (parseMethodDescriptor y.desc).map (fun z => z.parameters.length) = some 0) (hlen : (mx_en [.ref (r + 1)]).length ≤ μ2.2.2.1) (hd : decode μ.2.1 pc = .ok (.invokespecial index, 3)) (hn : pc + 3 = n) (hst : (st.map fun v => v.category).sum ≤ 12) (hsl : (mx_sh M).length = nl) (hv : ls.all (mx_vr nl) = true) (hv2 : st.all (mx_vr nl) = true)
    (k : mx_W μ2 d 0 (mx_ent μ2.2.2.1 [.ref (r + 1)]) [] M (mx_KI μ (d + 1) n ls st nl Q)) : mx_W μ (d + 1) pc ls (.ref (r + 1) :: st) M Q := by
  subst hn
  subst hsl
  intro Γ p l e R s m args below meth c a0 n0 H locs cells slots ad la C A L T hT X
  obtain ⟨hx, hb, hml, hown, hr, hlocks, hexc, ⟨hst9, hnam⟩, hfr, hlo, hE⟩ := id C
  have hts := hE.1
  have hlen9 : ∀ sig, parseMethodDescriptor y.desc = some sig → ([] : List Value).length = sig.parameters.length := by
    intro sig h
    rw [h] at hnp
    exact (Option.some.inj hnp).symm
  have hW : 2 * (F0 m pc la ((.ref (r + 1) :: st).map (mx_tv Γ ad))).monitorRoom + ((st.map (mx_tv Γ ad)).map fun v => v.category).sum ≤ 12 := by
    rw [mx_catsum]
    have : (F0 m pc la ((.ref (r + 1) :: st).map (mx_tv Γ ad))).monitorRoom = 0 := rfl
    omega
  have hcode : (Cond.code y μ2.2.1 μ2.2.2.1 none).before args s = true := by
    have := hts _ hm.2.1 rfl args
    rw [hret] at this
    exact this
  have hno : ∀ E M1, ¬ mx_KI μ (d + 1) (pc + 3) ls st (mx_sh M).length Q (.inr E) M1 := fun E M1 h => h
  have hB := mx_backI (Γ := Γ) (p := p) (l := l) (e := e) (R := R) (s := s) (args := args) (below := below) (ad := ad) (a0 := a0) (n0 := n0) hno hm hlen k hx hE hst9 (by omega) (by omega)
  have go : ∃ (v : Option Value) (vm1 : Vm) (B : Pt), s.WarmedH vm1 ∧ Stand p l e R s m args below meth c B.U B.locs B.cells B.slots ∧ mx_Post Γ R s a0 n0 ad M (mx_KI μ (d + 1) (pc + 3) ls st (mx_sh M).length Q) ⟨T.setVm vm1, locs, cells, slots⟩ (Value.ref (ad r) :: []).toArray v B ∧
      ∀ target, Steps p.tables e below (B.U.setTop { F0 m pc la ((.ref (r + 1) :: st).map (mx_tv Γ ad)) with pc := pc + 3, stack := v.toList ++ st.map (mx_tv Γ ad) }) target → Steps p.tables e below (T.setTop (F0 m pc la ((.ref (r + 1) :: st).map (mx_tv Γ ad)))) target := by
    rcases hlk with h | ⟨host, h⟩
    · exact callI X hx hown hy1 (hts _ h rfl args) (hts _ hin rfl args) hcode hm.2.2.2.2.1 hB (g := F0 m pc la ((.ref (r + 1) :: st).map (mx_tv Γ ad))) rfl (L.1.trans hml.symm) (a := ad r) (argsL := []) (rest := st.map (mx_tv Γ ad)) hlen9 rfl hW (by rw [hb]; exact hd) (fun vm1 _ => ⟨rfl, by show mx_At Γ R s a0 n0 M T.heap locs cells slots ad; rw [hT]; exact A⟩)
    · exact va_callIN X hx hown hy1 (va_Nw.of rfl (hts _ h rfl args)) (hts _ hin rfl args) hcode hm.2.2.2.2.1 hB (g := F0 m pc la ((.ref (r + 1) :: st).map (mx_tv Γ ad))) rfl (L.1.trans hml.symm) (a := ad r) (argsL := []) (rest := st.map (mx_tv Γ ad)) hlen9 rfl hW (by rw [hb]; exact hd) (fun vm1 _ => ⟨rfl, by show mx_At Γ R s a0 n0 M T.heap locs cells slots ad; rw [hT]; exact A⟩)
  obtain ⟨v, vm1, B, -, X1, hpost, hgo⟩ := go
  obtain ⟨r9, M1, ad1, rfl, hA1, hag, hscr, hk1⟩ := hpost
  cases r9 with
  | some v => exact hk1.elim
  | none =>
    obtain ⟨hsh, hk1⟩ := hk1
    have hext : ∀ i, i < (mx_sh M).length → ad1 i = ad i := fun i hi => hag i (Or.inl hi)
    obtain ⟨t, h1, h2⟩ := hk1 Γ p l e R s m args below meth c a0 n0 B.U.heap B.locs B.cells B.slots ad1 la (by rw [hscr]; exact C) hA1 (mx_L_ext hext hv L) B.U rfl X1
    rw [hscr] at h2
    rw [mx_ts_ext hext hv2] at h1
    exact ⟨t, hgo t h1, h2⟩
/-- a final field that holds a reference is written in its class's own constructor -/
theorem mx_putFR {μ : mx_Me} {d pc n : Nat} {ls st : List Value} {M : mx_M} {Q : mx_O → mx_M → Prop} {index ci j r v : Nat} (q : vw_C) (hq : vwCl[ci]? = some q) (hj : j < q.2.2) (hlk : Cond.fieldLink μ.1 index (q.2.1 j).1 (q.2.1 j).2.1 (q.2.1 j).2.2.1 ∈ lw_tbl) (hfin : (q.2.1 j).2.2.2 = true) (hdc : (q.2.1 j).1 = μ.1) (hnm9 : μ.2.2.2.2.2 = "<init>") (ht : mx_kR (mx_ct ci j) = true) (hs : mx_shp M r = some (.inl ci)) (hv9 : v ≤ (mx_sh M).length) (hd : decode μ.2.1 pc = .ok (.putfield index, 3)) (hn : pc + 3 = n)
    (k : mx_W μ d n ls st (mx_setR M r j v) Q) : mx_W μ d pc ls (.ref v :: .ref r :: st) M Q := by
  subst hn
  intro Γ p l e R s m args below meth c a0 n0 H locs cells slots ad la C A L
  obtain ⟨hx, hb, hml, hown, hr, hlocks, hexc, ⟨hst9, hnam⟩, hfr, hlo, hE⟩ := id C
  obtain ⟨hin, hty, hnm⟩ := mx_ok ci q hq
  cases r with
  | zero => cases hs
  | succ r =>
    have he := mx_ws_at (Γ := Γ) (ad := ad) hs
    have hts := mx_tb_of hE.1 args
    have hjn : j < mx_cn ci := by rw [mx_cn_of hq]; exact hj
    have hrow : ∀ i, mx_fv (mx_ct ci i) (mx_I M (r + 1) i) (mx_J M (r + 1) i) (mx_ra ad (mx_up (mx_R M) (r + 1) j v (r + 1) i)) = if i = j then mx_ra ad v else mx_fv (mx_ct ci i) (mx_I M (r + 1) i) (mx_J M (r + 1) i) (mx_ra ad (mx_R M (r + 1) i)) := by
      intro i
      rw [mx_up_on]
      by_cases h : i = j
      · subst h
        rw [if_pos rfl, mx_fvR ht]
        simp
      · rw [if_neg h]; dsimp only; rw [if_neg h]
    have hset : mx_ws Γ ad (mx_setR M (r + 1) j v) = (mx_ws Γ ad M).set r (ad r, .inr (ci, ((List.range (mx_cn ci)).map (fun j => mx_fv (mx_ct ci j) (mx_I M (r + 1) j) (mx_J M (r + 1) j) (mx_ra ad (mx_R M (r + 1) j)))).set j (mx_ra ad v))) := by
      rw [mx_ws_set (M' := mx_setR M (r + 1) j v) hs rfl (fun a ha => rfl) (fun a ha => rfl) (fun a ha => mx_up_off _ _ ha), mx_row_set hjn (fun i _ => hrow i)]
      rfl
    refine va_putF (D := mx_D Γ) (ci := ci) (v := mx_ra ad v) (C := q.1) (T := q.2.1) (N := q.2.2) hx hb hts hin (mx_ct ci) hty hnm hown hE.2.1 A.1.1 A.1.2.1 A.2.1 r he hq j hj (hE.1 _ hlk rfl args) (fun _ h9 => h9) hfin (hnam.trans hnm9) hdc (hty j hj) (mx_raFits ht ad v).1 (mx_raFits ht ad v).2 (by simpa using hjn) hd (fun H1 locs1 hP hD hS => ?_)
    rw [← hset] at hP hD
    refine k Γ p l e R s m args below meth c a0 n0 H1 locs1 cells slots ad la C ⟨⟨hP, hD, fun a b => ?_⟩, hS, A.2.2.1, A.2.2.2.1, A.2.2.2.2.1, A.2.2.2.2.2⟩ L
    show mx_up (mx_R M) (r + 1) j v a b ≤ (mx_sh M).length
    unfold mx_up
    split
    · exact hv9
    · exact A.1.2.2 a b
