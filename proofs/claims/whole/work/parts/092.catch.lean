/-! an exception that comes out of a call is caught -/
theorem mx_goL {Q : Handler → Pre} {E : CtlPost} {e : Env} {dd : Bool} {acts : List Action} {s : State} {f : JFrame} {a : Addr} {x : ExceptionTableEntry} {t : List ExceptionTableEntry} {c : ClassId} {cell : Cell} (hx : covers x f.pc = true) (h0 : x.catchType ≠ 0) (hl : s.vm.ClassLinks e.platform f.method.cls x.catchType c) (hcell : s.heap[a]? = some cell) (hobj : ∀ k, cell.vm ≠ .statics k)
    (hk : ∃ k, s.vm.classes[cell.cls]? = some k) (hc : ∃ k, s.vm.classes[c]? = some k) :
    wp (findHandler.go f a (x :: t)) Q E e dd acts s ↔ if s.vm.assignable cell.cls c = true then Q (.found x.handlerPc) dd acts (s.setVm (s.vm.noted f.method.cls x.catchType (.cls c))) else wp (findHandler.go f a t) Q E e dd acts (s.setVm (s.vm.noted f.method.cls x.catchType (.cls c))) := by
  simp only [covers] at hx
  obtain ⟨ha, ht⟩ := (resolveClass_links e.toSetting hl).op (op := VmOp.resolveClass f.method.cls x.catchType) rfl
  have hal : s.vm.Alike (s.vm.noted f.method.cls x.catchType (.cls c)) := (Vm.Alike.refl s.vm).noted _ _ _
  obtain ⟨k1, hk1⟩ := hk
  obtain ⟨k2, hk2⟩ := hc
  obtain ⟨k3, hk3, -⟩ := hal.2.2 _ _ hk1
  obtain ⟨k4, hk4, -⟩ := hal.2.2 _ _ hk2
  have hfe : (s.vm.noted f.method.cls x.catchType (.cls c)).assignable cell.cls c = s.vm.assignable cell.cls c := hal.assignable _ _
  cases hfit : s.vm.assignable cell.cls c <;> rw [hfit] at hfe <;> simp [findHandler.go, hx, h0, ha, ht, hcell, hobj, hk3, hk4, hfe, VmOp.dirties, VmOp.acts]
/-- what a search in the state s gives, and the tables behind it -/
def mx_FT (e : Env) (s : State) (f : JFrame) (a : Addr) (pc : Nat) (vm2 : Vm) : Prop := ∀ (Q : Handler → Pre) (E : CtlPost) (dd : Bool) (acts : List Action), wp (findHandler f a) Q E e dd acts s ↔ Q (.found pc) dd acts (s.setVm vm2)
theorem mx_FT_step {e : Env} {s : State} {a : Addr} {f : JFrame} {r : List Frame} {pc : Nat} {vm2 : Vm} (hf : mx_FT e s f a pc vm2) : (stepThrowing e s a (.java f :: r)).Is ((s.setVm vm2).setFrames (.java { f with pc := pc, stack := [.ref a] } :: r)) [] := by
  simp only [stepThrowing, searchFrame, vmDo]
  generalize hr : Sem.go _ e false [] s = res
  obtain ⟨as, rfl, ha⟩ := Sem.eq_ok_of hr (a := Handler.found pc) (s' := s.setVm vm2) (acts' := []) (by simp [hf _ _ _ _])
  exact ⟨rfl, ha⟩
theorem mx_FT_steps {tb : Tables} {e : Env} {s target : State} {g : JFrame} {c : Code} {below : List Frame} {a : Addr} (h : At s g.method c below) {pc : Nat} {vm2 : Vm} (hf : mx_FT e ((s.setTop g).pushFrame (.throwing a)) g a pc vm2) (hrest : Steps tb e below ((s.setVm vm2).setTop { g with pc := pc, stack := [.ref a] }) target) : Steps tb e below ((s.setTop g).pushFrame (.throwing a)) target := by
  obtain ⟨hgo, hw⟩ := h.throwing a
  refine Steps.head hgo hw ?_
  rw [stepThread_throwing (frames_entered h.top _), (mx_FT_step (s := (s.setTop g).pushFrame (.throwing a)) hf).1]
  obtain ⟨g0, hg⟩ := Option.isSome_iff_exists.mp h.top
  obtain ⟨r, hr⟩ := State.topJava?_eq_some.mp hg
  have hr2 : (s.setVm vm2).frames = .java g0 :: r := hr
  rw [State.setTop_of_frames _ hr2] at hrest
  have e1 : ((s.setTop g).pushFrame (.throwing a)).setVm vm2 = ((s.setVm vm2).setTop g).pushFrame (.throwing a) := rfl
  rw [e1, State.pushFrame, State.setTop_of_frames _ hr2, State.setFrames_setFrames, State.setFrames_setFrames, hr, List.tail_cons]
  exact hrest
/-- the row of a table that takes an exception of the class E thrown at pc: its handler stands at hp; what is kept of the object goes into the local i, the walk goes on at n -/
def mx_Hd (μ : mx_Me) (pc : Nat) (E : String) (hp n i : Nat) : Prop :=
  (∃ (x : ExceptionTableEntry) (suf : List ExceptionTableEntry) (name : String), x.handlerPc = hp ∧ covers x pc = true ∧ x.catchType ≠ 0 ∧ Cond.classLink μ.1 x.catchType name ∈ lw_tbl ∧ Cond.castable E name ∈ lw_tbl ∧
    (μ.2.2.2.2.1 = x :: suf ∨ ∃ z : ExceptionTableEntry, μ.2.2.2.2.1 = z :: x :: suf ∧ covers z pc = true ∧ z.catchType ≠ 0 ∧ Cond.classLink μ.1 z.catchType mx_nse ∈ lw_tbl ∧ E = mx_iae)) ∧
  i < μ.2.2.1 ∧ ((∃ q : Fin 4, decode μ.2.1 hp = .ok (.astore_n q, 1) ∧ (q : Nat) = i ∧ hp + 1 = n) ∨ (decode μ.2.1 hp = .ok (.astore i, 2) ∧ hp + 2 = n))
theorem mx_links {args : Array Value} {s S : State} {own name : String} {d ct : Nat} {pl : Platform} (hpl : pl.magicAccessors = ({} : Platform).magicAccessors) (hW : s.WarmedH S.vm) (hown : s.vm.findClass own = some d) (hl : (Cond.classLink own ct name).before args s = true) : ∃ c, s.vm.findClass name = some c ∧ S.vm.ClassLinks pl d ct c ∧ (∃ k, S.vm.classes[c]? = some k) ∧ s.WarmedH (S.vm.noted d ct (.cls c)) := by
  obtain ⟨c, hc, hcl⟩ := Cond.classLink_spec hown hl pl hpl
  obtain ⟨dk, _, _, kt, hd, _, _, _, _, hkt, _, hopen⟩ := hcl.here
  obtain ⟨kt2, hkt2, -⟩ := hW.alike.2.2 _ _ hkt
  exact ⟨c, hc, hW.classLinks hcl, ⟨kt2, hkt2⟩, hW.noted hd hopen (State.rightAt_cls hcl)⟩
set_option maxHeartbeats 1000000 in
theorem mx_find {μ : mx_Me} {d : Nat} {M : mx_M} {Γ : mx_G} {p : Program} {l : Launch} {e : Env} {R : Room} {s : State} {m : MethodId} {args : Array Value} {below : List Frame} {meth : Method} {c : Code} (C : mx_Ctx Γ μ d (mx_scr M) p l R s m meth c) {T : State} {locs : List Loc} {cells slots : Nat} (X : Stand p l e R s m args below meth c T locs cells slots)
    {E : String} {q : Addr} {ce : Cell} (hce : T.heap[q]? = some ce) (hcv : ce.vm = .none) (hcc : s.vm.findClass E = some ce.cls) {pc hp n i : Nat} {la : Array Slot} {rest : List Value} (hH : mx_Hd μ pc E hp n i) :
    ∃ vm2, s.WarmedH vm2 ∧ mx_FT e ((T.setTop (F0 m pc la rest)).pushFrame (.throwing q)) (F0 m pc la rest) q hp vm2 := by
  obtain ⟨hx, hb, hml, hown, hr, hlocks, hexc, ⟨hl, hnam⟩, hfr, hlo, hTT, hK, -, -, -, -, -, hNc, -⟩ := id C
  have hpl : e.platform.magicAccessors = ({} : Platform).magicAccessors := by rw [X.admits.platform]
  obtain ⟨⟨x, suf, name, h1, h2, h3, h4, h5, h6⟩, -⟩ := hH
  have hobj : ∀ k, ce.vm ≠ .statics k := fun k h => by rw [hcv] at h; cases h
  have hkE : ∀ S : State, s.WarmedH S.vm → ∃ k, S.vm.classes[ce.cls]? = some k := by
    intro S hW
    obtain ⟨k9, h9, -⟩ := Vm.findClass_spec hcc
    obtain ⟨k8, h8, -⟩ := hW.alike.2.2 _ _ h9
    exact ⟨k8, h8⟩
  have hm2 : ((T.setTop (F0 m pc la rest)).pushFrame (.throwing q)).vm.method? m = some meth := X.method'
  have hW0 : s.WarmedH ((T.setTop (F0 m pc la rest)).pushFrame (.throwing q)).vm := X.warmed
  have catches : ∀ S : State, s.WarmedH S.vm → S.heap[q]? = some ce → ∃ vm2, s.WarmedH vm2 ∧ ∀ (Q : Handler → Pre) (E : CtlPost) (dd : Bool) (acts : List Action), wp (findHandler.go (F0 m pc la rest) q (x :: suf)) Q E e dd acts S ↔ Q (.found hp) dd acts (S.setVm vm2) := by
    intro S hW hce
    obtain ⟨c5, hc5, hl5, hk5, hw5⟩ := mx_links hpl hW hown (hTT _ h4 rfl args)
    obtain ⟨c3, c4, g3, g4, hasg⟩ := Cond.castable_spec (hTT _ h5 rfl args)
    cases Option.some.inj (g3.symm.trans hcc)
    cases Option.some.inj (g4.symm.trans hc5)
    refine ⟨_, hw5, fun Q E dd acts => ?_⟩
    rw [mx_goL (f := F0 m pc la rest) h2 h3 hl5 hce hobj (hkE S hW) hk5, if_pos (by rw [hW.alike.assignable]; exact hasg), h1]
  rcases h6 with h6 | ⟨z, h6, z1, z2, z3, z4⟩
  · obtain ⟨vm2, hw, hf⟩ := catches _ hW0 hce
    refine ⟨vm2, hw, fun Q E dd acts => ?_⟩
    rw [W.findHandler_eq (f := F0 m pc la rest) hm2 X.code, hexc, h6]
    exact hf Q E dd acts
  · obtain ⟨c5, hc5, hl5, hk5, hw5⟩ := mx_links hpl hW0 hown (hTT _ z3 rfl args)
    subst z4
    obtain ⟨n1, n2, g1, g2, g3⟩ := hNc
    cases Option.some.inj (g1.symm.trans hcc)
    cases Option.some.inj (g2.symm.trans hc5)
    obtain ⟨vm2, hw, hf⟩ := catches (((T.setTop (F0 m pc la rest)).pushFrame (.throwing q)).setVm _) hw5 hce
    refine ⟨vm2, hw, fun Q E dd acts => ?_⟩
    rw [W.findHandler_eq (f := F0 m pc la rest) hm2 X.code, hexc, h6, mx_goL (f := F0 m pc la rest) z1 z2 hl5 hce hobj (hkE _ hW0) hk5, if_neg (by rw [hW0.alike.assignable, g3]; decide)]
    exact hf Q E dd acts
/-- behind a call whose exceptions are caught here -/
def mx_KH (μ : mx_Me) (d pc n : Nat) (ls st : List Value) (sh : List mx_S) (Q : mx_O → mx_M → Prop) : mx_O → mx_M → Prop
  | .inl v, M1 => mx_sh M1 = sh ∧ mx_W μ d n ls (v.toList ++ st) M1 Q
  | .inr E, M1 => mx_sh M1 = sh ∧ ∃ hp n2 i, mx_Hd μ pc E hp n2 i ∧ mx_W μ d n2 (mx_st1 ls i (.retAddr 0)) [] M1 Q
set_option maxHeartbeats 1000000 in
theorem mx_callVH {μ : mx_Me} {d pc n : Nat} {ls st : List Value} {M : mx_M} {Q : mx_O → mx_M → Prop} (y : MethodName) (μ2 : mx_Me) (as : List Value) {index r ci : Nat} (hm : mx_Mt y μ2) (hlk : Cond.methodLink μ.1 index y ∈ lw_tbl) (hin : Cond.instanceMethod y ∈ lw_tbl) (hsel : Cond.selects y.cls y y ∈ lw_tbl)
    (hs : mx_shp M r = some (.inl ci)) (hc : (vwCl[ci]?).map (fun q => q.1) = some y.cls) (hnp : (parseMethodDescriptor y.desc).map (fun z => z.parameters.length) = some as.length) (hlen : (mx_en (.ref r :: as)).length ≤ μ2.2.2.1) (hd : decode μ.2.1 pc = .ok (.invokevirtual index, 3)) (hn : pc + 3 = n) (hst : (st.map fun v => v.category).sum ≤ 12)
    (k : mx_W μ2 d 0 (mx_ent μ2.2.2.1 (.ref r :: as)) [] M (mx_KH μ (d + 1) pc n ls st (mx_sh M) Q)) : mx_W μ (d + 1) pc ls (as.reverse ++ .ref r :: st) M Q := by
  subst hn
  intro Γ p l e R s m args below meth c a0 n0 H locs cells slots ad la C A L T hT X
  obtain ⟨hx, hb, hml, hown, hr, hlocks, hexc, ⟨hst9, hnam⟩, hfr, hlo, hE⟩ := id C
  have hts := hE.1
  cases r with
  | zero => cases hs
  | succ r =>
    have he := mx_ws_at (Γ := Γ) (ad := ad) hs
    cases hq : vwCl[ci]? with
    | none => rw [hq] at hc; cases hc
    | some q =>
      rw [hq] at hc
      have hqc : q.1 = y.cls := Option.some.inj hc
      obtain ⟨cellB, hcB, hoB, hclB⟩ := va_recv hE.2.1 A.1.1 (ci := ci) (q0 := r) hq he
      rw [hqc] at hclB
      have hlen9 : ∀ sig, parseMethodDescriptor y.desc = some sig → (as.map (mx_tv Γ ad)).length = sig.parameters.length := by
        intro sig h
        rw [h] at hnp
        rw [List.length_map]
        exact (Option.some.inj hnp).symm
      have hW : 2 * (F0 m pc la ((as.reverse ++ .ref (r + 1) :: st).map (mx_tv Γ ad))).monitorRoom + ((st.map (mx_tv Γ ad)).map fun v => v.category).sum ≤ 12 := by
        rw [mx_catsum]
        have : (F0 m pc la ((as.reverse ++ .ref (r + 1) :: st).map (mx_tv Γ ad))).monitorRoom = 0 := rfl
        omega
      rcases vx_callV X hx hown (hts _ hlk rfl args) (hts _ hin rfl args) (hts _ hsel rfl args) (hts _ hm.2.1 rfl args) hm.2.2.2.2.1 (mx_back (Γ := Γ) (ad := ad) (a0 := a0) (n0 := n0) hm hlen k hx hE hst9 (by omega) (by omega)) (by rw [hT]; exact hcB) hoB hclB (g := F0 m pc la ((as.reverse ++ .ref (r + 1) :: st).map (mx_tv Γ ad))) rfl (L.1.trans hml.symm) (argsL := as.map (mx_tv Γ ad)) (rest := st.map (mx_tv Γ ad)) hlen9
        (by show (as.reverse ++ .ref (r + 1) :: st).map (mx_tv Γ ad) = _; rw [List.map_append, List.map_reverse]; rfl) hW (by rw [hb]; exact hd) (fun vm1 _ => ⟨rfl, by show mx_At Γ R s a0 n0 M T.heap locs cells slots ad; rw [hT]; exact A⟩) with ⟨v, vm1, B, -, X1, hpost, hgo⟩ | ⟨q9, vm1, B, -, X1, hpost, hgo⟩
      · obtain ⟨r9, M1, ad1, rfl, hA1, hag, hscr, hsh, hk1⟩ := hpost
        obtain ⟨t, h1, h2⟩ := mx_ret hk1 hsh hscr C L hag hA1 X1
        exact ⟨t, hgo t h1, h2⟩
      · obtain ⟨E, M1, ad1, ce, hA1, hag, hscr, hce, hcv, hcc, hsh, hp, n2, i, hH, hk1⟩ := hpost
        have e1 : ad1 = ad := by
          funext j
          refine hag j ?_
          rw [hsh]
          omega
        subst e1
        obtain ⟨vm2, hw2, hf⟩ := mx_find C X1 hce hcv hcc (la := la) (rest := st.map (mx_tv Γ ad1)) hH
        have X2 := X1.noted hw2
        obtain ⟨-, hi, hast⟩ := hH
        have go : W p l e R s m args below meth c B.U.heap B.locs B.cells B.slots (mx_Fin Γ (mx_scr M) R s below a0 n0 Q) (F0 m hp la [.ref q9]) := by
          rcases hast with ⟨q4, d4, e4, e5⟩ | ⟨d4, e5⟩
          · refine mx_lv_astore_n hx hb d4 e4 rfl rfl (mx_lv_of L) hi (fun la2 h => ?_)
            rw [e5, ← hscr]
            exact hk1 Γ p l e R s m args below meth c a0 n0 B.U.heap B.locs B.cells B.slots ad1 la2 (by rw [hscr]; exact C) hA1 (mx_L_st1 L hi (fun h9 => absurd rfl h9) h)
          · refine mx_lv_astore hx hb d4 rfl rfl (mx_lv_of L) hi (fun la2 h => ?_)
            rw [e5, ← hscr]
            exact hk1 Γ p l e R s m args below meth c a0 n0 B.U.heap B.locs B.cells B.slots ad1 la2 (by rw [hscr]; exact C) hA1 (mx_L_st1 L hi (fun h9 => absurd rfl h9) h)
        obtain ⟨t, h1, h2⟩ := go (B.U.setVm vm2) rfl X2
        exact ⟨t, hgo.trans (mx_FT_steps (g := F0 m pc la (st.map (mx_tv Γ ad1))) X1.here hf h1), h2⟩
