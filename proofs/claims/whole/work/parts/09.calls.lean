/-! calls -/
/-- the locals with which a method begins -/
def mx_en : List Value → List Value
  | [] => []
  | v :: vs => if v.category = 2 then v :: .retAddr 0 :: mx_en vs else v :: mx_en vs
def mx_ent (nL : Nat) (as : List Value) : List Value := mx_en as ++ List.replicate (nL - (mx_en as).length) (.retAddr 0)
theorem mx_en_len (Γ : mx_G) (ad : Nat → Nat) : ∀ as : List Value, (lg_sl (as.map (mx_tv Γ ad))).length = (mx_en as).length
  | [] => rfl
  | v :: vs => by
    have ih := mx_en_len Γ ad vs
    have hc := mx_cat Γ ad v
    unfold lg_sl at ih ⊢
    rw [List.map_cons, List.flatMap_cons, List.length_append, ih]
    show _ = (if v.category = 2 then v :: .retAddr 0 :: mx_en vs else v :: mx_en vs).length
    rw [hc]
    split <;> simp <;> omega
theorem mx_en_at (Γ : mx_G) (ad : Nat → Nat) : ∀ (as : List Value) (i : Nat) (v : Value), (mx_en as)[i]? = some v → v ≠ .retAddr 0 → (lg_sl (as.map (mx_tv Γ ad)))[i]? = some (.val (mx_tv Γ ad v))
  | [], i, v, h, _ => by simp [mx_en] at h
  | a :: as, i, v, h, hv => by
    have ih := mx_en_at Γ ad as
    have hc := mx_cat Γ ad a
    unfold mx_en at h
    have e9 : lg_sl ((a :: as).map (mx_tv Γ ad)) = (if a.category = 2 then [.val (mx_tv Γ ad a), .second] else [.val (mx_tv Γ ad a)]) ++ lg_sl (as.map (mx_tv Γ ad)) := by
      unfold lg_sl
      rw [List.map_cons, List.flatMap_cons, hc]
    rw [e9]
    split at h
    · next h2 =>
      rw [if_pos h2]
      match i, h with
      | 0, h => rw [List.getElem?_cons_zero] at h; cases h; rfl
      | 1, h => rw [List.getElem?_cons_succ, List.getElem?_cons_zero] at h; exact absurd (Option.some.inj h).symm hv
      | i + 2, h =>
        rw [List.getElem?_cons_succ, List.getElem?_cons_succ] at h
        exact ih i v h hv
    · next h2 =>
      rw [if_neg h2]
      match i, h with
      | 0, h => rw [List.getElem?_cons_zero] at h; cases h; rfl
      | i + 1, h =>
        rw [List.getElem?_cons_succ] at h
        exact ih i v h hv
theorem mx_L_ent {Γ : mx_G} {ad : Nat → Nat} {nL : Nat} {as : List Value} (h : (mx_en as).length ≤ nL) : mx_L Γ ad nL (mx_ent nL as) ((lg_sl (as.map (mx_tv Γ ad)) ++ List.replicate (nL - (lg_sl (as.map (mx_tv Γ ad))).length) Slot.unset).toArray) := by
  have h1 := lv_entry (as.map (mx_tv Γ ad)) (n := nL) (by rw [mx_en_len]; exact h)
  refine ⟨h1.1, h1.2.1, by simp [mx_ent]; omega, fun i v hi hv => ?_⟩
  unfold mx_ent at hi
  by_cases hl : i < (mx_en as).length
  · rw [List.getElem?_append_left hl] at hi
    rw [List.getElem?_toArray, List.getElem?_append_left (by rw [mx_en_len]; exact hl)]
    exact mx_en_at Γ ad as i v hi hv
  · rw [List.getElem?_append_right (by omega)] at hi
    exact absurd (List.eq_of_mem_replicate (List.mem_of_getElem? hi)) hv
/-- a method by its name: its words -/
def mx_Mt (y : MethodName) (μ : mx_Me) : Prop := μ.1 = y.cls ∧ Cond.code y μ.2.1 μ.2.2.1 μ.2.2.2.1 ∈ lw_tbl ∧ μ.2.2.2.2.1 = [] ∧ plainFor y = true ∧ (y.cls ≠ "java/lang/invoke/MethodHandle" ∧ y.cls ≠ "java/lang/invoke/VarHandle") ∧ μ.2.2.1 ≤ 40 ∧ Cond.initialized y.cls ∈ lw_tbl ∧ y.name = μ.2.2.2.2.2
/-- the world behind a call, seen by the caller -/
theorem mx_At.join {Γ : mx_G} {R R' : Room} {s s' : State} {a0 : Nat → Nat} {n0 : Nat} {M M' : mx_M} {H H' : Heap} {Ls L' : List Loc} {c0 s0 k n : Nat} {ad ad' : Nat → Nat} (hA : mx_At Γ R s a0 n0 M H Ls c0 s0 ad) (hs : s'.heap = H) (hR : R'.cells = (mx_rm M).1) (hR2 : R'.slots = (mx_rm M).2) (hB : mx_At Γ R' s' ad (mx_sh M).length M' H' L' k n ad') :
    mx_At Γ R s a0 n0 M' H' (Ls ++ L') (c0 + k) (s0 + n) ad' := by
  obtain ⟨b1, b2, b3, b4, b5, b6⟩ := hB
  obtain ⟨a1, a2, a3, a4, a5, a6⟩ := hA
  rw [hs] at b2
  rw [hR] at b3
  rw [hR2] at b4
  refine ⟨b1, ⟨Nat.le_trans a2.1 b2.1, fun q h1 h2 => ?_, fun q hq => ?_⟩, by omega, by omega, fun i hi => ?_, Nat.le_trans a6 b6⟩
  · rw [b2.2.1 q (Nat.lt_of_lt_of_le h1 a2.1) h2]
    exact a2.2.1 q h1 h2
  · rcases List.mem_append.mp hq with h | h
    · exact a2.2.2 q h
    · exact b2.2.2 q h
  · rcases hi with h | h
    · rw [b5 i (Or.inl (by omega)), a5 i (Or.inl h)]
    · rw [b5 i (Or.inr h), a5 i (Or.inr (by omega))]
abbrev mx_Post (Γ : mx_G) (R : Room) (s : State) (a0 : Nat → Nat) (n0 : Nat) (ad : Nat → Nat) (M : mx_M) (Q : mx_O → mx_M → Prop) : Pt → Array Value → Option Value → Pt → Prop := fun _ _ v B =>
  ∃ (r : Option Value) (M' : mx_M) (ad' : Nat → Nat), v = r.map (mx_tv Γ ad') ∧ mx_At Γ R s a0 n0 M' B.U.heap B.locs B.cells B.slots ad' ∧ (∀ i, i < (mx_sh M).length ∨ (mx_sh M').length ≤ i → ad' i = ad i) ∧ mx_scr M' = mx_scr M ∧ Q (.inl r) M'
abbrev mx_PostX (Γ : mx_G) (R : Room) (s : State) (a0 : Nat → Nat) (n0 : Nat) (ad : Nat → Nat) (M : mx_M) (Q : mx_O → mx_M → Prop) : Pt → Array Value → Addr → Pt → Prop := fun _ _ q B =>
  ∃ (E : String) (M' : mx_M) (ad' : Nat → Nat) (ce : Cell), mx_At Γ R s a0 n0 M' B.U.heap B.locs B.cells B.slots ad' ∧ (∀ i, i < (mx_sh M).length ∨ (mx_sh M').length ≤ i → ad' i = ad i) ∧ mx_scr M' = mx_scr M ∧ B.U.heap[q]? = some ce ∧ ce.vm = .none ∧ s.vm.findClass E = some ce.cls ∧ Q (.inr E) M'
set_option maxHeartbeats 1000000 in
theorem mx_back {y : MethodName} {μ : mx_Me} {d : Nat} {as : List Value} {M : mx_M} {Q : mx_O → mx_M → Prop} (hy : mx_Mt y μ) (hlen : (mx_en as).length ≤ μ.2.2.1) (hk : mx_W μ d 0 (mx_ent μ.2.2.1 as) [] M Q)
    {Γ : mx_G} {p : Program} {l : Launch} {e : Env} {R : Room} {s : State} {args : Array Value} {below : List Frame} {a0 ad : Nat → Nat} {n0 : Nat} (hx : p.tables.exec = Jvm.exec) (hE : mx_Env Γ (mx_scr M) s) (hst : l.stackTraces = false) (hfr : d + 1 + 16 ≤ R.frames) (hlo : 64 * (d + 1) + 512 ≤ R.locals) :
    vx_Back l R p e below s args y 3 12 (fun P a => a = (as.map (mx_tv Γ ad)).toArray ∧ mx_At Γ R s a0 n0 M P.U.heap P.locs P.cells P.slots ad) (mx_Post Γ R s a0 n0 ad M Q) (mx_PostX Γ R s a0 n0 ad M Q) := by
  intro m meth c P g ig mk a X hg hsize hdg hW hn hp
  obtain ⟨U, Ls, c0, s0⟩ := P
  obtain ⟨ha, hA⟩ := hp
  dsimp only [Pt.U, Pt.locs, Pt.cells, Pt.slots] at X hn hA
  subst ha
  obtain ⟨y1, y2, y3, y4, y5, y6, y7, y8⟩ := hy
  have hEU : mx_Env Γ (mx_scr M) U := hE.step X.warmed hA.2.1
  obtain ⟨methk, ck, hmk, hck, hcb, hcl, hret, hlk, hexe, -⟩ := Cond.code_spec hn (hEU.1 _ y2 rfl (as.map (mx_tv Γ ad)).toArray)
  have hpk : U.plainMethod mk := State.plainMethod.of_named y4 hn hmk
  obtain ⟨Y, hinv⟩ := X.into (g := g) hg hsize hdg (as.map (mx_tv Γ ad)).toArray (R' := { frames := R.frames - 1, cells := (mx_rm M).1, slots := (mx_rm M).2, locals := R.locals - 64 }) hmk hck hlk hpk (by show R.frames - 1 + 1 ≤ R.frames; omega) (by show _ + (ck.maxLocals + 11) + (R.locals - 64) ≤ R.locals; rw [hcl]; omega) hA.2.2.1 hA.2.2.2.1
  have hEs : mx_Env Γ (mx_scr M) (U.calling g mk (as.map (mx_tv Γ ad)).toArray) := hEU.step (locs := []) (State.WarmedH.refl U) va_S.rf
  have hown : (U.calling g mk (as.map (mx_tv Γ ad)).toArray).vm.findClass μ.1 = some mk.cls := by rw [y1]; exact findClass_of_methodNamed hn
  have hC : mx_Ctx Γ μ d (mx_scr M) p l { frames := R.frames - 1, cells := (mx_rm M).1, slots := (mx_rm M).2, locals := R.locals - 64 } (U.calling g mk (as.map (mx_tv Γ ad)).toArray) mk methk ck :=
    ⟨hx, hcb, hcl, hown, hret, hlk, by rw [y3]; simpa using hexe, ⟨hst, (name_of_methodNamed hn hmk).1.trans y8⟩, by show d + 16 ≤ R.frames - 1; omega, by show 64 * d + 512 ≤ R.locals - 64; omega, hEs⟩
  have hk9 := hk Γ p l e { frames := R.frames - 1, cells := (mx_rm M).1, slots := (mx_rm M).2, locals := R.locals - 64 } (U.calling g mk (as.map (mx_tv Γ ad)).toArray) mk (as.map (mx_tv Γ ad)).toArray (.java g :: below) methk ck ad (mx_sh M).length U.heap [] 0 0 ad _ hC
    ⟨hA.1, va_S.rf, by show 0 + (mx_rm M).1 ≤ (mx_rm M).1; omega, by show 0 + (mx_rm M).2 ≤ (mx_rm M).2; omega, fun _ _ => rfl, Nat.le_refl _⟩ (mx_L_ent hlen)
  have he : entryFrame mk (as.map (mx_tv Γ ad)).toArray ck.maxLocals = F0 mk 0 ((lg_sl (as.map (mx_tv Γ ad)) ++ List.replicate (μ.2.2.1 - (lg_sl (as.map (mx_tv Γ ad))).length) Slot.unset).toArray) [] := by rw [hcl]; exact lg_entry_eq mk _ _
  obtain ⟨t, hsteps, o, r, M', ad', L', k, n, f1, f2, f3, f4, f5, f6, f7, f8⟩ := hk9 ((U.setTop g).pushFrame (.java (entryFrame mk (as.map (mx_tv Γ ad)).toArray ck.maxLocals))) rfl Y
  have hS : Steps p.tables e below (doInvoke e (U.setTop g) [] mk (as.map (mx_tv Γ ad)).toArray).1 t := by
    rw [hinv []]
    rw [he] at hsteps ⊢
    exact Steps.weaken (mid := [.java g]) hsteps
  cases r with
  | inl v =>
    have f3 : o = .returned (v.map (mx_tv Γ ad')) := f3
    subst f3
    obtain ⟨T', X', hW', hsm', ht⟩ := X.outOf hg hdg (mk := mk) (a := (as.map (mx_tv Γ ad)).toArray) f2 f5 f6
    have hh : t.heap = T'.heap := by rw [ht]; rfl
    refine Or.inl ⟨v.map (mx_tv Γ ad'), ⟨T', Ls ++ L', c0 + k, s0 + n⟩, X', ⟨v, M', ad', rfl, ?_, f4.2.2.2.2.1, f7, f8⟩, by rw [← ht]; exact hS⟩
    rw [hh] at f4
    exact mx_At.join hA rfl rfl rfl f4
  | inr E =>
    obtain ⟨q, ce, ho, hce, hcv, hcc⟩ := f3
    subst ho
    obtain ⟨T', X', hW', hsm', ht⟩ := X.outOfThrown hg (mk := mk) (a := (as.map (mx_tv Γ ad)).toArray) f2 f5 f6
    have hh : t.heap = T'.heap := by rw [ht]; rfl
    rw [hh] at hce f4
    have hcls : s.vm.findClass E = some ce.cls := by
      have h9 : U.vm.findClass E = some ce.cls := hcc
      rw [X.warmed.alike.findClass] at h9
      exact h9
    exact Or.inr ⟨q, ⟨T', Ls ++ L', c0 + k, s0 + n⟩, X', ⟨E, M', ad', ce, mx_At.join hA rfl rfl rfl f4, f4.2.2.2.2.1, f7, hce, hcv, hcls, f8⟩, by rw [← ht]; exact hS⟩
/-- what is owed behind a call -/
def mx_K (μ : mx_Me) (d n : Nat) (ls st : List Value) (sh : List mx_S) (Q : mx_O → mx_M → Prop) : mx_O → mx_M → Prop
  | .inl v, M1 => mx_sh M1 = sh ∧ mx_W μ d n ls (v.toList ++ st) M1 Q
  | .inr E, M1 => mx_sh M1 = sh ∧ Q (.inr E) M1
theorem mx_catsum (Γ : mx_G) (ad : Nat → Nat) (st : List Value) : ((st.map (mx_tv Γ ad)).map fun v => v.category).sum = (st.map fun v => v.category).sum := by
  rw [List.map_map]
  have : ((fun v : Value => v.category) ∘ mx_tv Γ ad) = fun v => v.category := by funext v; exact mx_cat Γ ad v
  rw [this]
theorem mx_ret {μ : mx_Me} {d n : Nat} {ls st : List Value} {M M1 : mx_M} {Q : mx_O → mx_M → Prop} {v : Option Value} (hk : mx_W μ d n ls (v.toList ++ st) M1 Q) (hsh : mx_sh M1 = mx_sh M) (hscr : mx_scr M1 = mx_scr M) {Γ : mx_G} {p : Program} {l : Launch} {e : Env} {R : Room} {s : State} {m : MethodId} {args : Array Value} {below : List Frame} {meth : Method} {c : Code} {a0 ad ad1 : Nat → Nat} {n0 : Nat} {la : Array Slot} (C : mx_Ctx Γ μ d (mx_scr M) p l R s m meth c) (L : mx_L Γ ad μ.2.2.1 ls la)
    (hag : ∀ i, i < (mx_sh M).length ∨ (mx_sh M1).length ≤ i → ad1 i = ad i) {B : Pt} (hA : mx_At Γ R s a0 n0 M1 B.U.heap B.locs B.cells B.slots ad1) (X : Stand p l e R s m args below meth c B.U B.locs B.cells B.slots) :
    ∃ t, Steps p.tables e below (B.U.setTop (F0 m n la ((v.map (mx_tv Γ ad1)).toList ++ st.map (mx_tv Γ ad)))) t ∧ mx_Fin Γ (mx_scr M) R s below a0 n0 Q t := by
  have e1 : ad1 = ad := by
    funext i
    refine hag i ?_
    rw [hsh]
    omega
  subst e1
  obtain ⟨t, h1, h2⟩ := hk Γ p l e R s m args below meth c a0 n0 B.U.heap B.locs B.cells B.slots ad1 la (by rw [hscr]; exact C) hA L B.U rfl X
  rw [hscr] at h2
  refine ⟨t, ?_, h2⟩
  have e2 : (v.map (mx_tv Γ ad1)).toList ++ st.map (mx_tv Γ ad1) = (v.toList ++ st).map (mx_tv Γ ad1) := by cases v <;> simp
  rw [e2]
  exact h1
theorem mx_thr {μ : mx_Me} {d : Nat} {M M1 : mx_M} {Q : mx_O → mx_M → Prop} {E : String} (hq : Q (.inr E) M1) (hscr : mx_scr M1 = mx_scr M) {Γ : mx_G} {p : Program} {l : Launch} {e : Env} {R : Room} {s : State} {m : MethodId} {args : Array Value} {below : List Frame} {meth : Method} {c : Code} {a0 ad1 : Nat → Nat} {n0 : Nat} (C : mx_Ctx Γ μ d (mx_scr M) p l R s m meth c) (hex : μ.2.2.2.2.1 = [])
    {B : Pt} (hA : mx_At Γ R s a0 n0 M1 B.U.heap B.locs B.cells B.slots ad1) (X : Stand p l e R s m args below meth c B.U B.locs B.cells B.slots) {q : Addr} {ce : Cell} (hce : B.U.heap[q]? = some ce) (hcv : ce.vm = .none) (hcc : s.vm.findClass E = some ce.cls) {pc : Nat} {la : Array Slot} {rest : List Value} :
    ∃ t, Steps p.tables e below ((B.U.setTop (F0 m pc la rest)).pushFrame (.throwing q)) t ∧ mx_Fin Γ (mx_scr M) R s below a0 n0 Q t := by
  obtain ⟨w1, w2, w3, w4, w5⟩ := X.leaveThrown q (g := F0 m pc la rest) rfl rfl rfl (by rw [C.2.2.2.2.2.2.1, hex]; intro x hx; cases hx) C.2.2.2.2.2.1
  exact ⟨_, w1, .threw q, .inr E, M1, ad1, B.locs, B.cells, B.slots, w2, w3, ⟨q, ce, rfl, hce, hcv, hcc⟩, hA, w4, w5, hscr, hq⟩
set_option maxHeartbeats 1000000 in
theorem mx_callV {μ : mx_Me} {d pc n : Nat} {ls st : List Value} {M : mx_M} {Q : mx_O → mx_M → Prop} (y : MethodName) (μ2 : mx_Me) (as : List Value) {index r ci : Nat} (hm : mx_Mt y μ2) (hlk : Cond.methodLink μ.1 index y ∈ lw_tbl) (hin : Cond.instanceMethod y ∈ lw_tbl) (hsel : Cond.selects y.cls y y ∈ lw_tbl)
    (hs : mx_shp M r = some (.inl ci)) (hc : (vwCl[ci]?).map (fun q => q.1) = some y.cls) (hnp : (parseMethodDescriptor y.desc).map (fun z => z.parameters.length) = some as.length) (hlen : (mx_en (.ref r :: as)).length ≤ μ2.2.2.1) (hd : decode μ.2.1 pc = .ok (.invokevirtual index, 3)) (hn : pc + 3 = n) (hst : (st.map fun v => v.category).sum ≤ 12) (hex : μ.2.2.2.2.1 = [])
    (k : mx_W μ2 d 0 (mx_ent μ2.2.2.1 (.ref r :: as)) [] M (mx_K μ (d + 1) n ls st (mx_sh M) Q)) : mx_W μ (d + 1) pc ls (as.reverse ++ .ref r :: st) M Q := by
  subst hn
  intro Γ p l e R s m args below meth c a0 n0 H locs cells slots ad la C A L T hT X
  obtain ⟨hx, hb, hml, hown, hr, hlocks, hexc, ⟨hst9, hnam⟩, hfr, hlo, hE⟩ := id C
  have hts := hE.1
  cases r with
  | zero => cases hs
  | succ r =>
    have he := mx_ws_at (Γ := Γ) (ad := ad) hs
    cases hq : vwCl[ci]? with
    | none => rw [hq] at hc; cases hc
    | some q =>
      rw [hq] at hc
      have hqc : q.1 = y.cls := Option.some.inj hc
      obtain ⟨cellB, hcB, hoB, hclB⟩ := va_recv hE.2.1 A.1.1 (ci := ci) (q0 := r) hq he
      rw [hqc] at hclB
      have hlen9 : ∀ sig, parseMethodDescriptor y.desc = some sig → (as.map (mx_tv Γ ad)).length = sig.parameters.length := by
        intro sig h
        rw [h] at hnp
        rw [List.length_map]
        exact (Option.some.inj hnp).symm
      have hW : 2 * (F0 m pc la ((as.reverse ++ .ref (r + 1) :: st).map (mx_tv Γ ad))).monitorRoom + ((st.map (mx_tv Γ ad)).map fun v => v.category).sum ≤ 12 := by
        rw [mx_catsum]
        have : (F0 m pc la ((as.reverse ++ .ref (r + 1) :: st).map (mx_tv Γ ad))).monitorRoom = 0 := rfl
        omega
      rcases vx_callV X hx hown (hts _ hlk rfl args) (hts _ hin rfl args) (hts _ hsel rfl args) (hts _ hm.2.1 rfl args) hm.2.2.2.2.1 (mx_back (Γ := Γ) (ad := ad) (a0 := a0) (n0 := n0) hm hlen k hx hE hst9 (by omega) (by omega)) (by rw [hT]; exact hcB) hoB hclB (g := F0 m pc la ((as.reverse ++ .ref (r + 1) :: st).map (mx_tv Γ ad))) rfl (L.1.trans hml.symm) (argsL := as.map (mx_tv Γ ad)) (rest := st.map (mx_tv Γ ad)) hlen9
        (by show (as.reverse ++ .ref (r + 1) :: st).map (mx_tv Γ ad) = _; rw [List.map_append, List.map_reverse]; rfl) hW (by rw [hb]; exact hd) (fun vm1 _ => ⟨rfl, by show mx_At Γ R s a0 n0 M T.heap locs cells slots ad; rw [hT]; exact A⟩) with ⟨v, vm1, B, -, X1, hpost, hgo⟩ | ⟨q9, vm1, B, -, X1, hpost, hgo⟩
      · obtain ⟨r9, M1, ad1, rfl, hA1, hag, hscr, hsh, hk1⟩ := hpost
        obtain ⟨t, h1, h2⟩ := mx_ret hk1 hsh hscr C L hag hA1 X1
        exact ⟨t, hgo t h1, h2⟩
      · obtain ⟨E, M1, ad1, ce, hA1, hag, hscr, hce, hcv, hcc, hsh, hq1⟩ := hpost
        obtain ⟨t, h1, h2⟩ := mx_thr hq1 hscr C hex hA1 X1 hce hcv hcc (pc := pc) (la := la) (rest := st.map (mx_tv Γ ad))
        exact ⟨t, hgo.trans h1, h2⟩
set_option maxHeartbeats 1000000 in
theorem mx_callS {μ : mx_Me} {d pc n : Nat} {ls st : List Value} {M : mx_M} {Q : mx_O → mx_M → Prop} (y : MethodName) (μ2 : mx_Me) (as : List Value) {index : Nat} (hm : mx_Mt y μ2) (hlk : Cond.methodLink μ.1 index y ∈ lw_tbl) (hstt : Cond.static y ∈ lw_tbl)
    (hnp : (parseMethodDescriptor y.desc).map (fun z => z.parameters.length) = some as.length) (hlen : (mx_en as).length ≤ μ2.2.2.1) (hd : decode μ.2.1 pc = .ok (.invokestatic index, 3)) (hn : pc + 3 = n) (hst : (st.map fun v => v.category).sum ≤ 12) (hex : μ.2.2.2.2.1 = [])
    (k : mx_W μ2 d 0 (mx_ent μ2.2.2.1 as) [] M (mx_K μ (d + 1) n ls st (mx_sh M) Q)) : mx_W μ (d + 1) pc ls (as.reverse ++ st) M Q := by
  subst hn
  intro Γ p l e R s m args below meth c a0 n0 H locs cells slots ad la C A L T hT X
  obtain ⟨hx, hb, hml, hown, hr, hlocks, hexc, ⟨hst9, hnam⟩, hfr, hlo, hE⟩ := id C
  have hts := hE.1
  have hlen9 : ∀ sig, parseMethodDescriptor y.desc = some sig → (as.map (mx_tv Γ ad)).length = sig.parameters.length := by
    intro sig h
    rw [h] at hnp
    rw [List.length_map]
    exact (Option.some.inj hnp).symm
  have hW : 2 * (F0 m pc la ((as.reverse ++ st).map (mx_tv Γ ad))).monitorRoom + ((st.map (mx_tv Γ ad)).map fun v => v.category).sum ≤ 12 := by
    rw [mx_catsum]
    have : (F0 m pc la ((as.reverse ++ st).map (mx_tv Γ ad))).monitorRoom = 0 := rfl
    omega
  rcases vx_callS X hx hown (hts _ hlk rfl args) (hts _ hstt rfl args) (hts _ hm.2.2.2.2.2.2.1 rfl args) (hts _ hm.2.1 rfl args) hm.2.2.2.2.1 (mx_back (Γ := Γ) (ad := ad) (a0 := a0) (n0 := n0) hm hlen k hx hE hst9 (by omega) (by omega)) (g := F0 m pc la ((as.reverse ++ st).map (mx_tv Γ ad))) rfl (L.1.trans hml.symm) (argsL := as.map (mx_tv Γ ad)) (rest := st.map (mx_tv Γ ad)) hlen9
    (by show (as.reverse ++ st).map (mx_tv Γ ad) = _; rw [List.map_append, List.map_reverse]) hW (by rw [hb]; exact hd) (fun vm1 _ => ⟨rfl, by show mx_At Γ R s a0 n0 M T.heap locs cells slots ad; rw [hT]; exact A⟩) with ⟨v, vm1, B, -, X1, hpost, hgo⟩ | ⟨q9, vm1, B, -, X1, hpost, hgo⟩
  · obtain ⟨r9, M1, ad1, rfl, hA1, hag, hscr, hsh, hk1⟩ := hpost
    obtain ⟨t, h1, h2⟩ := mx_ret hk1 hsh hscr C L hag hA1 X1
    exact ⟨t, hgo t h1, h2⟩
  · obtain ⟨E, M1, ad1, ce, hA1, hag, hscr, hce, hcv, hcc, hsh, hq1⟩ := hpost
    obtain ⟨t, h1, h2⟩ := mx_thr hq1 hscr C hex hA1 X1 hce hcv hcc (pc := pc) (la := la) (rest := st.map (mx_tv Γ ad))
    exact ⟨t, hgo.trans h1, h2⟩
/-! a method's instructions, as a table -/
def mx_dec1 (b : ByteArray) (q : Nat × Instr × Nat) : Bool := match decode b q.1 with
  | .ok r => decide (r.1 = q.2.1) && (r.2 == q.2.2)
  | .error _ => false
def mx_dec (b : ByteArray) (t : List (Nat × Instr × Nat)) : Bool := t.all (mx_dec1 b)
theorem mx_dec1_of {b : ByteArray} {q : Nat × Instr × Nat} (h : mx_dec1 b q = true) : decode b q.1 = .ok (q.2.1, q.2.2) := by
  unfold mx_dec1 at h
  generalize decode b q.1 = x at h ⊢
  cases x with
  | error e => cases h
  | ok r =>
    simp only [Bool.and_eq_true, decide_eq_true_eq, beq_iff_eq] at h
    obtain ⟨r1, r2⟩ := r
    rw [← h.1, ← h.2]
theorem mx_da {b : ByteArray} {t : List (Nat × Instr × Nat)} (h : mx_dec b t = true) (i : Nat) {pc len : Nat} {ins : Instr} (hi : t[i]? = some (pc, ins, len)) : decode b pc = .ok (ins, len) := by
  have h0 : t.all (mx_dec1 b) = true := h
  have h1 : mx_dec1 b (pc, ins, len) = true := List.all_eq_true.mp h0 (pc, ins, len) (List.mem_of_getElem? hi)
  have h2 := mx_dec1_of h1
  dsimp only at h2
  exact h2
/-! more instructions: wide constants, copies of rows, texts -/
theorem mx_ldcw {μ : mx_Me} {d pc n : Nat} {ls st : List Value} {M : mx_M} {Q : mx_O → mx_M → Prop} {index : Nat} {v : Int32} (hc : Cond.constant μ.1 index v ∈ lw_tbl) (hd : decode μ.2.1 pc = .ok (.ldc_w index, 3)) (hn : pc + 3 = n) (k : mx_W μ d n ls (.int v :: st) M Q) : mx_W μ d pc ls st M Q := by
  subst hn
  intro Γ p l e R s m args below meth c a0 n0 H locs cells slots ad la C A L
  exact lv_ldcw C.1 C.2.1 C.2.2.2.1 (C.2.2.2.2.2.2.2.2.2.2.1 _ hc rfl args) hd (k Γ p l e R s m args below meth c a0 n0 H locs cells slots ad la C A L)
/-- a row copied into a row -/
def mx_cpI (M : mx_M) (r0 r1 sp dp n : Nat) : mx_M := (mx_sh M, fun a => if a = r1 then va_cpy (mx_I M r0) (mx_I M r1) sp dp n else mx_I M a, mx_J M, mx_R M, mx_rm M, mx_scr M)
def mx_cpJ (M : mx_M) (r0 r1 sp dp n : Nat) : mx_M := (mx_sh M, mx_I M, fun a => if a = r1 then va_cpy (mx_J M r0) (mx_J M r1) sp dp n else mx_J M a, mx_R M, mx_rm M, mx_scr M)
theorem mx_nfw : nativeFrameWords "java/lang/System" "arraycopy" 5 = 7 := by decide +kernel
def mx_Ac (own : String) (index : Nat) : Prop := Cond.methodLink own index arraycopyName ∈ lw_tbl ∧ Cond.native arraycopyName ∈ lw_tbl ∧ Cond.static arraycopyName ∈ lw_tbl ∧ Cond.initialized "java/lang/System" ∈ lw_tbl
theorem mx_copyI {μ : mx_Me} {d pc n : Nat} {ls st : List Value} {M : mx_M} {Q : mx_O → mx_M → Prop} {index r0 r1 N0 N1 : Nat} {sp dp k9 : Int32} (hc : mx_Ac μ.1 index) (h0 : mx_shp M r0 = some (.inr (.int, N0))) (h1 : mx_shp M r1 = some (.inr (.int, N1))) (g1 : ¬ sp < 0) (g2 : ¬ dp < 0) (g3 : ¬ k9 < 0) (g4 : sp.toNatClampNeg + k9.toNatClampNeg ≤ N0) (g5 : dp.toNatClampNeg + k9.toNatClampNeg ≤ N1)
    (hd : decode μ.2.1 pc = .ok (.invokestatic index, 3)) (hn : pc + 3 = n) (hst : (st.map fun v => v.category).sum ≤ 12) (k : mx_W μ d n ls st (mx_cpI M r0 r1 sp.toNatClampNeg dp.toNatClampNeg k9.toNatClampNeg) Q) : mx_W μ d pc ls (.int k9 :: .int dp :: .ref r1 :: .int sp :: .ref r0 :: st) M Q := by
  subst hn
  intro Γ p l e R s m args below meth c a0 n0 H locs cells slots ad la C A L
  obtain ⟨hx, hb, hml, hown, hr, hlocks, hexc, ⟨hst9, hnam⟩, hfr, hlo, hE⟩ := id C
  cases r0 with
  | zero => cases h0
  | succ r0 =>
    cases r1 with
    | zero => cases h1
    | succ r1 =>
      have e0 : (mx_ws Γ ad M)[r0]? = some (ad r0, .inl (mx_ac Γ .int, N0, .inl (mx_I M (r0 + 1)))) := mx_ws_at (Γ := Γ) (ad := ad) h0
      have e1 : (mx_ws Γ ad M)[r1]? = some (ad r1, .inl (mx_ac Γ .int, N1, .inl (mx_I M (r1 + 1)))) := mx_ws_at (Γ := Γ) (ad := ad) h1
      have hset : mx_ws Γ ad (mx_cpI M (r0 + 1) (r1 + 1) sp.toNatClampNeg dp.toNatClampNeg k9.toNatClampNeg) = (mx_ws Γ ad M).set r1 (ad r1, .inl (mx_ac Γ .int, N1, .inl (va_cpy (mx_I M (r0 + 1)) (mx_I M (r1 + 1)) sp.toNatClampNeg dp.toNatClampNeg k9.toNatClampNeg))) := by
        rw [mx_ws_set (M' := mx_cpI M (r0 + 1) (r1 + 1) sp.toNatClampNeg dp.toNatClampNeg k9.toNatClampNeg) h1 rfl (fun a ha => if_neg ha) (fun a ha => rfl) (fun a ha => rfl)]
        have e9 : mx_I (mx_cpI M (r0 + 1) (r1 + 1) sp.toNatClampNeg dp.toNatClampNeg k9.toNatClampNeg) (r1 + 1) = va_cpy (mx_I M (r0 + 1)) (mx_I M (r1 + 1)) sp.toNatClampNeg dp.toNatClampNeg k9.toNatClampNeg := if_pos rfl
        rw [e9]
        rfl
      refine va_copyi hx hb (hml.trans L.1.symm) hown (hE.1 _ hc.1 rfl args) (hE.1 _ hc.2.1 rfl args) (hE.1 _ hc.2.2.1 rfl args) (hE.1 _ hc.2.2.2 rfl args) hE.2.1 A.1.1 A.1.2.1 A.2.1 r0 r1 0 0 e0 e1 rfl rfl rfl g1 g2 g3 g4 g5 (fun _ _ => rfl) (by omega) (by rw [mx_catsum, mx_nfw]; omega) hd (fun H1 locs1 hP hD hS => ?_)
      rw [← hset] at hP hD
      exact k Γ p l e R s m args below meth c a0 n0 H1 locs1 cells slots ad la C ⟨⟨hP, hD, A.1.2.2⟩, hS, A.2.2.1, A.2.2.2.1, A.2.2.2.2.1, A.2.2.2.2.2⟩ L
theorem mx_copyJ {μ : mx_Me} {d pc n : Nat} {ls st : List Value} {M : mx_M} {Q : mx_O → mx_M → Prop} {index r0 r1 N0 N1 : Nat} {sp dp k9 : Int32} (hc : mx_Ac μ.1 index) (h0 : mx_shp M r0 = some (.inr (.long, N0))) (h1 : mx_shp M r1 = some (.inr (.long, N1))) (g1 : ¬ sp < 0) (g2 : ¬ dp < 0) (g3 : ¬ k9 < 0) (g4 : sp.toNatClampNeg + k9.toNatClampNeg ≤ N0) (g5 : dp.toNatClampNeg + k9.toNatClampNeg ≤ N1)
    (hd : decode μ.2.1 pc = .ok (.invokestatic index, 3)) (hn : pc + 3 = n) (hst : (st.map fun v => v.category).sum ≤ 12) (k : mx_W μ d n ls st (mx_cpJ M r0 r1 sp.toNatClampNeg dp.toNatClampNeg k9.toNatClampNeg) Q) : mx_W μ d pc ls (.int k9 :: .int dp :: .ref r1 :: .int sp :: .ref r0 :: st) M Q := by
  subst hn
  intro Γ p l e R s m args below meth c a0 n0 H locs cells slots ad la C A L
  obtain ⟨hx, hb, hml, hown, hr, hlocks, hexc, ⟨hst9, hnam⟩, hfr, hlo, hE⟩ := id C
  cases r0 with
  | zero => cases h0
  | succ r0 =>
    cases r1 with
    | zero => cases h1
    | succ r1 =>
      have e0 : (mx_ws Γ ad M)[r0]? = some (ad r0, .inl (mx_ac Γ .long, N0, .inr (.inl (mx_J M (r0 + 1))))) := mx_ws_at (Γ := Γ) (ad := ad) h0
      have e1 : (mx_ws Γ ad M)[r1]? = some (ad r1, .inl (mx_ac Γ .long, N1, .inr (.inl (mx_J M (r1 + 1))))) := mx_ws_at (Γ := Γ) (ad := ad) h1
      have hset : mx_ws Γ ad (mx_cpJ M (r0 + 1) (r1 + 1) sp.toNatClampNeg dp.toNatClampNeg k9.toNatClampNeg) = (mx_ws Γ ad M).set r1 (ad r1, .inl (mx_ac Γ .long, N1, .inr (.inl (va_cpy (mx_J M (r0 + 1)) (mx_J M (r1 + 1)) sp.toNatClampNeg dp.toNatClampNeg k9.toNatClampNeg)))) := by
        rw [mx_ws_set (M' := mx_cpJ M (r0 + 1) (r1 + 1) sp.toNatClampNeg dp.toNatClampNeg k9.toNatClampNeg) h1 rfl (fun a ha => rfl) (fun a ha => if_neg ha) (fun a ha => rfl)]
        have e9 : mx_J (mx_cpJ M (r0 + 1) (r1 + 1) sp.toNatClampNeg dp.toNatClampNeg k9.toNatClampNeg) (r1 + 1) = va_cpy (mx_J M (r0 + 1)) (mx_J M (r1 + 1)) sp.toNatClampNeg dp.toNatClampNeg k9.toNatClampNeg := if_pos rfl
        rw [e9]
        rfl
      refine va_copyl hx hb (hml.trans L.1.symm) hown (hE.1 _ hc.1 rfl args) (hE.1 _ hc.2.1 rfl args) (hE.1 _ hc.2.2.1 rfl args) (hE.1 _ hc.2.2.2 rfl args) hE.2.1 A.1.1 A.1.2.1 A.2.1 r0 r1 1 1 e0 e1 rfl rfl rfl g1 g2 g3 g4 g5 (fun _ _ => rfl) (by omega) (by rw [mx_catsum, mx_nfw]; omega) hd (fun H1 locs1 hP hD hS => ?_)
      rw [← hset] at hP hD
      exact k Γ p l e R s m args below meth c a0 n0 H1 locs1 cells slots ad la C ⟨⟨hP, hD, A.1.2.2⟩, hS, A.2.2.1, A.2.2.2.1, A.2.2.2.2.1, A.2.2.2.2.2⟩ L
/-! the texts' own methods: statics, fields, bytes, calls -/
theorem mx_gstC {μ : mx_Me} {d pc n : Nat} {ls st : List Value} {M : mx_M} {Q : mx_O → mx_M → Prop} {index : Nat} (hl : Cond.fieldLink μ.1 index "java/lang/String" "COMPACT_STRINGS" "Z" ∈ lw_tbl) (hd : decode μ.2.1 pc = .ok (.getstatic index, 3)) (hn : pc + 3 = n) (k : mx_W μ d n ls (.int 1 :: st) M Q) : mx_W μ d pc ls st M Q := by
  subst hn
  intro Γ p l e R s m args below meth c a0 n0 H locs cells slots ad la C A L
  obtain ⟨hx, hb, hml, hown, hr, hlocks, hexc, ⟨hst9, hnam⟩, hfr, hlo, hT, hK, h3, h4, h5, h6, h7, -⟩ := id C
  exact va_gets hx hb h7 A.2.1 hown (hT _ hl rfl args) (fun _ h => h) hd (k Γ p l e R s m args below meth c a0 n0 H locs cells slots ad la C A L)
theorem mx_gstF {μ : mx_Me} {d pc n : Nat} {ls st : List Value} {M : mx_M} {Q : mx_O → mx_M → Prop} {index : Nat} (hl : Cond.fieldLink μ.1 index "jdk/internal/util/Preconditions" "SIOOBE_FORMATTER" "Ljava/util/function/BiFunction;" ∈ lw_tbl) (hd : decode μ.2.1 pc = .ok (.getstatic index, 3)) (hn : pc + 3 = n) (k0 : mx_W μ d n ls (.ref 0 :: st) M Q) (k1 : mx_W μ d n ls (.retAddr 0 :: st) M Q) : mx_W μ d pc ls st M Q := by
  subst hn
  intro Γ p l e R s m args below meth c a0 n0 H locs cells slots ad la C A L
  obtain ⟨hx, hb, hml, hown, hr, hlocks, hexc, ⟨hst9, hnam⟩, hfr, hlo, hT, hK, h3, h4, h5, h6, h7, h8, h9, h10, h11, h12⟩ := id C
  rcases h12 with h | h
  · exact va_gets hx hb h A.2.1 hown (hT _ hl rfl args) (fun _ h => h) hd (k0 Γ p l e R s m args below meth c a0 n0 H locs cells slots ad la C A L)
  · exact va_gets hx hb h A.2.1 hown (hT _ hl rfl args) (fun _ h => h) hd (k1 Γ p l e R s m args below meth c a0 n0 H locs cells slots ad la C A L)
theorem mx_sfV {μ : mx_Me} {d pc n : Nat} {ls st : List Value} {M : mx_M} {Q : mx_O → mx_M → Prop} {index i : Nat} (hi : i < 33) (hl : Cond.fieldLink μ.1 index "java/lang/String" "value" "[B" ∈ lw_tbl) (hd : decode μ.2.1 pc = .ok (.getfield index, 3)) (hn : pc + 3 = n) (k : mx_W μ d n ls (.retAddr (2 * i + 3) :: st) M Q) : mx_W μ d pc ls (.retAddr (2 * i + 2) :: st) M Q := by
  subst hn
  intro Γ p l e R s m args below meth c a0 n0 H locs cells slots ad la C A L
  obtain ⟨hx, hb, hml, hown, hr, hlocks, hexc, ⟨hst9, hnam⟩, hfr, hlo, hT, hK, h3, h4, -⟩ := id C
  exact vk_getf hx hb ((h4 i hi).1 0 Nat.one_pos).2.2.1 A.2.1 hown (hT _ hl rfl args) (fun _ h => h) hd (k Γ p l e R s m args below meth c a0 n0 H locs cells slots ad la C A L)
theorem mx_sfC {μ : mx_Me} {d pc n : Nat} {ls st : List Value} {M : mx_M} {Q : mx_O → mx_M → Prop} {index i : Nat} (hi : i < 33) (hl : Cond.fieldLink μ.1 index "java/lang/String" "coder" "B" ∈ lw_tbl) (hd : decode μ.2.1 pc = .ok (.getfield index, 3)) (hn : pc + 3 = n) (k : mx_W μ d n ls (.int 0 :: st) M Q) : mx_W μ d pc ls (.retAddr (2 * i + 2) :: st) M Q := by
  subst hn
  intro Γ p l e R s m args below meth c a0 n0 H locs cells slots ad la C A L
  obtain ⟨hx, hb, hml, hown, hr, hlocks, hexc, ⟨hst9, hnam⟩, hfr, hlo, hT, hK, h3, h4, -⟩ := id C
  exact vk_getf hx hb ((h4 i hi).1 0 Nat.one_pos).2.1 A.2.1 hown (hT _ hl rfl args) (fun _ h => h) hd (k Γ p l e R s m args below meth c a0 n0 H locs cells slots ad la C A L)
theorem mx_tlen9 {μ : mx_Me} {d pc n : Nat} {ls st : List Value} {M : mx_M} {Q : mx_O → mx_M → Prop} {i : Nat} (hi : i < 33) (hd : decode μ.2.1 pc = .ok (.arraylength, 1)) (hn : pc + 1 = n) (k : mx_W μ d n ls (.int (Int32.ofNat (mx_tlen.getD i 0)) :: st) M Q) : mx_W μ d pc ls (.retAddr (2 * i + 3) :: st) M Q := by
  subst hn
  intro Γ p l e R s m args below meth c a0 n0 H locs cells slots ad la C A L
  obtain ⟨hx, hb, hml, hown, hr, hlocks, hexc, ⟨hst9, hnam⟩, hfr, hlo, hT, hK, h3, h4, -⟩ := id C
  exact va_tlen hx hb ((h4 i hi).1 0 Nat.one_pos).2.2.2 A.2.1 rfl hd (k Γ p l e R s m args below meth c a0 n0 H locs cells slots ad la C A L)
theorem mx_tbld {μ : mx_Me} {d pc n : Nat} {ls st : List Value} {M : mx_M} {Q : mx_O → mx_M → Prop} {i : Nat} {j : Int32} (hi : i < 33) (hj : vp_in j (mx_tlen.getD i 0)) (hd : decode μ.2.1 pc = .ok (.baload, 1)) (hn : pc + 1 = n) (k : mx_W μ d n ls (.int ((mx_tbyt.getD i []).getD j.toNatClampNeg 0) :: st) M Q) : mx_W μ d pc ls (.int j :: .retAddr (2 * i + 3) :: st) M Q := by
  subst hn
  intro Γ p l e R s m args below meth c a0 n0 H locs cells slots ad la C A L
  obtain ⟨hx, hb, hml, hown, hr, hlocks, hexc, ⟨hst9, hnam⟩, hfr, hlo, hT, hK, h3, h4, -⟩ := id C
  exact va_tb hx hb ((h4 i hi).1 0 Nat.one_pos).2.2.2 A.2.1 hj rfl hd (k Γ p l e R s m args below meth c a0 n0 H locs cells slots ad la C A L)
set_option maxHeartbeats 1000000 in
theorem mx_callT {μ : mx_Me} {d pc n : Nat} {ls st : List Value} {M : mx_M} {Q : mx_O → mx_M → Prop} (y : MethodName) (μ2 : mx_Me) (as : List Value) {index i : Nat} (hi : i < 33) (hm : mx_Mt y μ2) (hlk : Cond.methodLink μ.1 index y ∈ lw_tbl) (hin : Cond.instanceMethod y ∈ lw_tbl) (hsel : Cond.selects y.cls y y ∈ lw_tbl)
    (hc : y.cls = "java/lang/String") (hnp : (parseMethodDescriptor y.desc).map (fun z => z.parameters.length) = some as.length) (hlen : (mx_en (.retAddr (2 * i + 2) :: as)).length ≤ μ2.2.2.1) (hd : decode μ.2.1 pc = .ok (.invokevirtual index, 3)) (hn : pc + 3 = n) (hst : (st.map fun v => v.category).sum ≤ 12) (hex : μ.2.2.2.2.1 = [])
    (k : mx_W μ2 d 0 (mx_ent μ2.2.2.1 (.retAddr (2 * i + 2) :: as)) [] M (mx_K μ (d + 1) n ls st (mx_sh M) Q)) : mx_W μ (d + 1) pc ls (as.reverse ++ .retAddr (2 * i + 2) :: st) M Q := by
  subst hn
  intro Γ p l e R s m args below meth c a0 n0 H locs cells slots ad la C A L T hT X
  obtain ⟨hx, hb, hml, hown, hr, hlocks, hexc, ⟨hst9, hnam⟩, hfr, hlo, hE⟩ := id C
  have hts := hE.1
  obtain ⟨cellB, hcB, hoB, hclB⟩ := vk_recv (H := H) (locs := locs) (i := 0) (hE.2.2.2.1 i hi) Nat.one_pos A.2.1
  rw [← hc] at hclB
  have hlen9 : ∀ sig, parseMethodDescriptor y.desc = some sig → (as.map (mx_tv Γ ad)).length = sig.parameters.length := by
    intro sig h
    rw [h] at hnp
    rw [List.length_map]
    exact (Option.some.inj hnp).symm
  have hW : 2 * (F0 m pc la ((as.reverse ++ .retAddr (2 * i + 2) :: st).map (mx_tv Γ ad))).monitorRoom + ((st.map (mx_tv Γ ad)).map fun v => v.category).sum ≤ 12 := by
    rw [mx_catsum]
    have : (F0 m pc la ((as.reverse ++ .retAddr (2 * i + 2) :: st).map (mx_tv Γ ad))).monitorRoom = 0 := rfl
    omega
  rcases vx_callV X hx hown (hts _ hlk rfl args) (hts _ hin rfl args) (hts _ hsel rfl args) (hts _ hm.2.1 rfl args) hm.2.2.2.2.1 (mx_back (Γ := Γ) (ad := ad) (a0 := a0) (n0 := n0) hm hlen k hx hE hst9 (by omega) (by omega)) (by rw [hT]; exact hcB) hoB hclB (g := F0 m pc la ((as.reverse ++ .retAddr (2 * i + 2) :: st).map (mx_tv Γ ad))) rfl (L.1.trans hml.symm) (argsL := as.map (mx_tv Γ ad)) (rest := st.map (mx_tv Γ ad)) hlen9
    (by show (as.reverse ++ .retAddr (2 * i + 2) :: st).map (mx_tv Γ ad) = _; rw [List.map_append, List.map_reverse]; rfl) hW (by rw [hb]; exact hd) (fun vm1 _ => ⟨rfl, by show mx_At Γ R s a0 n0 M T.heap locs cells slots ad; rw [hT]; exact A⟩) with ⟨v, vm1, B, -, X1, hpost, hgo⟩ | ⟨q9, vm1, B, -, X1, hpost, hgo⟩
  · obtain ⟨r9, M1, ad1, rfl, hA1, hag, hscr, hsh, hk1⟩ := hpost
    obtain ⟨t, h1, h2⟩ := mx_ret hk1 hsh hscr C L hag hA1 X1
    exact ⟨t, hgo t h1, h2⟩
  · obtain ⟨E, M1, ad1, ce, hA1, hag, hscr, hce, hcv, hcc, hsh, hq1⟩ := hpost
    obtain ⟨t, h1, h2⟩ := mx_thr hq1 hscr C hex hA1 X1 hce hcv hcc (pc := pc) (la := la) (rest := st.map (mx_tv Γ ad))
    exact ⟨t, hgo.trans h1, h2⟩
