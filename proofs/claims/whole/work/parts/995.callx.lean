/-! a static call of a method that has handlers of its own -/
def mx_MtX (y : MethodName) (μ : mx_Me) (hh : List (Nat × Nat × Nat × Nat)) : Prop := μ.1 = y.cls ∧ Cond.codeWith y μ.2.1 μ.2.2.1 μ.2.2.2.1 hh ∈ lw_tbl ∧ μ.2.2.2.2.1 = tableOf hh ∧ plainFor y = true ∧ (y.cls ≠ "java/lang/invoke/MethodHandle" ∧ y.cls ≠ "java/lang/invoke/VarHandle") ∧ μ.2.2.1 ≤ 40 ∧ Cond.initialized y.cls ∈ lw_tbl ∧ y.name = μ.2.2.2.2.2
set_option maxHeartbeats 1000000 in
theorem mx_backX {y : MethodName} {hh : List (Nat × Nat × Nat × Nat)} {μ : mx_Me} {d : Nat} {as : List Value} {M : mx_M} {Q : mx_O → mx_M → Prop} (hy : mx_MtX y μ hh) (hlen : (mx_en as).length ≤ μ.2.2.1) (hk : mx_W μ d 0 (mx_ent μ.2.2.1 as) [] M Q)
    {Γ : mx_G} {p : Program} {l : Launch} {e : Env} {R : Room} {s : State} {args : Array Value} {below : List Frame} {a0 ad : Nat → Nat} {n0 : Nat} (hx : p.tables.exec = Jvm.exec) (hE : mx_Env Γ (mx_scr M) s) (hst : l.stackTraces = false) (hfr : d + 1 + 16 ≤ R.frames) (hlo : 64 * (d + 1) + 512 ≤ R.locals) :
    vx_Back l R p e below s args y 3 12 (fun P a => a = (as.map (mx_tv Γ ad)).toArray ∧ mx_At Γ R s a0 n0 M P.U.heap P.locs P.cells P.slots ad) (mx_Post Γ R s a0 n0 ad M Q) (mx_PostX Γ R s a0 n0 ad M Q) := by
  intro m meth c P g ig mk a X hg hsize hdg hW hn hp
  obtain ⟨U, Ls, c0, s0⟩ := P
  obtain ⟨ha, hA⟩ := hp
  dsimp only [Pt.U, Pt.locs, Pt.cells, Pt.slots] at X hn hA
  subst ha
  obtain ⟨y1, y2, y3, y4, y5, y6, y7, y8⟩ := hy
  have hEU : mx_Env Γ (mx_scr M) U := hE.step X.warmed hA.2.1
  obtain ⟨m9, methk, ck, hn9, hmk9, hck, hcb, hcl, hexe, hret, hlk, -⟩ := Cond.codeWith_spec (hEU.1 _ y2 rfl (as.map (mx_tv Γ ad)).toArray)
  cases Option.some.inj (hn9.symm.trans hn)
  have hmk := hmk9
  have hpk : U.plainMethod mk := State.plainMethod.of_named y4 hn hmk
  obtain ⟨Y, hinv⟩ := X.into (g := g) hg hsize hdg (as.map (mx_tv Γ ad)).toArray (R' := { frames := R.frames - 1, cells := (mx_rm M).1, slots := (mx_rm M).2, locals := R.locals - 64 }) hmk hck hlk hpk (by show R.frames - 1 + 1 ≤ R.frames; omega) (by show _ + (ck.maxLocals + 11) + (R.locals - 64) ≤ R.locals; rw [hcl]; omega) hA.2.2.1 hA.2.2.2.1
  have hEs : mx_Env Γ (mx_scr M) (U.calling g mk (as.map (mx_tv Γ ad)).toArray) := hEU.step (locs := []) (State.WarmedH.refl U) va_S.rf
  have hown : (U.calling g mk (as.map (mx_tv Γ ad)).toArray).vm.findClass μ.1 = some mk.cls := by rw [y1]; exact findClass_of_methodNamed hn
  have hC : mx_Ctx Γ μ d (mx_scr M) p l { frames := R.frames - 1, cells := (mx_rm M).1, slots := (mx_rm M).2, locals := R.locals - 64 } (U.calling g mk (as.map (mx_tv Γ ad)).toArray) mk methk ck :=
    ⟨hx, hcb, hcl, hown, hret, hlk, by rw [y3, ← hexe, table_eq], ⟨hst, (name_of_methodNamed hn hmk).1.trans y8⟩, by show d + 16 ≤ R.frames - 1; omega, by show 64 * d + 512 ≤ R.locals - 64; omega, hEs⟩
  have hk9 := hk Γ p l e { frames := R.frames - 1, cells := (mx_rm M).1, slots := (mx_rm M).2, locals := R.locals - 64 } (U.calling g mk (as.map (mx_tv Γ ad)).toArray) mk (as.map (mx_tv Γ ad)).toArray (.java g :: below) methk ck ad (mx_sh M).length U.heap [] 0 0 ad _ hC
    ⟨hA.1, va_S.rf, by show 0 + (mx_rm M).1 ≤ (mx_rm M).1; omega, by show 0 + (mx_rm M).2 ≤ (mx_rm M).2; omega, fun _ _ => rfl, Nat.le_refl _⟩ (mx_L_ent hlen)
  have he : entryFrame mk (as.map (mx_tv Γ ad)).toArray ck.maxLocals = F0 mk 0 ((lg_sl (as.map (mx_tv Γ ad)) ++ List.replicate (μ.2.2.1 - (lg_sl (as.map (mx_tv Γ ad))).length) Slot.unset).toArray) [] := by rw [hcl]; exact lg_entry_eq mk _ _
  obtain ⟨t, hsteps, o, r, M', ad', L', k, n, f1, f2, f3, f4, f5, f6, f7, f8⟩ := hk9 ((U.setTop g).pushFrame (.java (entryFrame mk (as.map (mx_tv Γ ad)).toArray ck.maxLocals))) rfl Y
  have hS : Steps p.tables e below (doInvoke e (U.setTop g) [] mk (as.map (mx_tv Γ ad)).toArray).1 t := by
    rw [hinv []]
    rw [he] at hsteps ⊢
    exact Steps.weaken (mid := [.java g]) hsteps
  cases r with
  | inl v =>
    have f3 : o = .returned (v.map (mx_tv Γ ad')) := f3
    subst f3
    obtain ⟨T', X', hW', hsm', ht⟩ := X.outOf hg hdg (mk := mk) (a := (as.map (mx_tv Γ ad)).toArray) f2 f5 f6
    have hh : t.heap = T'.heap := by rw [ht]; rfl
    refine Or.inl ⟨v.map (mx_tv Γ ad'), ⟨T', Ls ++ L', c0 + k, s0 + n⟩, X', ⟨v, M', ad', rfl, ?_, f4.2.2.2.2.1, f7, f8⟩, by rw [← ht]; exact hS⟩
    rw [hh] at f4
    exact mx_At.join hA rfl rfl rfl f4
  | inr E =>
    obtain ⟨q, ce, ho, hce, hcv, hcc⟩ := f3
    subst ho
    obtain ⟨T', X', hW', hsm', ht⟩ := X.outOfThrown hg (mk := mk) (a := (as.map (mx_tv Γ ad)).toArray) f2 f5 f6
    have hh : t.heap = T'.heap := by rw [ht]; rfl
    rw [hh] at hce f4
    have hcls : s.vm.findClass E = some ce.cls := by
      have h9 : U.vm.findClass E = some ce.cls := hcc
      rw [X.warmed.alike.findClass] at h9
      exact h9
    exact Or.inr ⟨q, ⟨T', Ls ++ L', c0 + k, s0 + n⟩, X', ⟨E, M', ad', ce, mx_At.join hA rfl rfl rfl f4, f4.2.2.2.2.1, f7, hce, hcv, hcls, f8⟩, by rw [← ht]; exact hS⟩
theorem mx_callSX {μ : mx_Me} {d pc n : Nat} {ls st : List Value} {M : mx_M} {Q : mx_O → mx_M → Prop} (y : MethodName) (μ2 : mx_Me) (as : List Value) {index : Nat} {hh : List (Nat × Nat × Nat × Nat)} (hm : mx_MtX y μ2 hh) (hlk : Cond.methodLink μ.1 index y ∈ lw_tbl) (hstt : Cond.static y ∈ lw_tbl)
    (hnp : (parseMethodDescriptor y.desc).map (fun z => z.parameters.length) = some as.length) (hlen : (mx_en as).length ≤ μ2.2.2.1) (hd : decode μ.2.1 pc = .ok (.invokestatic index, 3)) (hn : pc + 3 = n) (hst : (st.map fun v => v.category).sum ≤ 12) (hex : μ.2.2.2.2.1 = [])
    (k : mx_W μ2 d 0 (mx_ent μ2.2.2.1 as) [] M (mx_K μ (d + 1) n ls st (mx_sh M) Q)) : mx_W μ (d + 1) pc ls (as.reverse ++ st) M Q := by
  subst hn
  intro Γ p l e R s m args below meth c a0 n0 H locs cells slots ad la C A L T hT X
  obtain ⟨hx, hb, hml, hown, hr, hlocks, hexc, ⟨hst9, hnam⟩, hfr, hlo, hE⟩ := id C
  have hts := hE.1
  have hlen9 : ∀ sig, parseMethodDescriptor y.desc = some sig → (as.map (mx_tv Γ ad)).length = sig.parameters.length := by
    intro sig h
    rw [h] at hnp
    rw [List.length_map]
    exact (Option.some.inj hnp).symm
  have hW : 2 * (F0 m pc la ((as.reverse ++ st).map (mx_tv Γ ad))).monitorRoom + ((st.map (mx_tv Γ ad)).map fun v => v.category).sum ≤ 12 := by
    rw [mx_catsum]
    have : (F0 m pc la ((as.reverse ++ st).map (mx_tv Γ ad))).monitorRoom = 0 := rfl
    omega
  rcases vx_callSX X hx hown (hts _ hlk rfl args) (hts _ hstt rfl args) (hts _ hm.2.2.2.2.2.2.1 rfl args) (hts _ hm.2.1 rfl args) hm.2.2.2.2.1 (mx_backX (Γ := Γ) (ad := ad) (a0 := a0) (n0 := n0) hm hlen k hx hE hst9 (by omega) (by omega)) (g := F0 m pc la ((as.reverse ++ st).map (mx_tv Γ ad))) rfl (L.1.trans hml.symm) (argsL := as.map (mx_tv Γ ad)) (rest := st.map (mx_tv Γ ad)) hlen9
    (by show (as.reverse ++ st).map (mx_tv Γ ad) = _; rw [List.map_append, List.map_reverse]) hW (by rw [hb]; exact hd) (fun vm1 _ => ⟨rfl, by show mx_At Γ R s a0 n0 M T.heap locs cells slots ad; rw [hT]; exact A⟩) with ⟨v, vm1, B, -, X1, hpost, hgo⟩ | ⟨q9, vm1, B, -, X1, hpost, hgo⟩
  · obtain ⟨r9, M1, ad1, rfl, hA1, hag, hscr, hsh, hk1⟩ := hpost
    obtain ⟨t, h1, h2⟩ := mx_ret hk1 hsh hscr C L hag hA1 X1
    exact ⟨t, hgo t h1, h2⟩
  · obtain ⟨E, M1, ad1, ce, hA1, hag, hscr, hce, hcv, hcc, hsh, hq1⟩ := hpost
    obtain ⟨t, h1, h2⟩ := mx_thr hq1 hscr C hex hA1 X1 hce hcv hcc (pc := pc) (la := la) (rest := st.map (mx_tv Γ ad))
    exact ⟨t, hgo.trans h1, h2⟩
