/-! calls out of the law and its helpers -/
theorem va_P_app {D : va_G} {cl : List vw_C} {x y : va_W} {H : Heap} (h1 : va_P D cl x H) (h2 : va_P D cl y H) : va_P D cl (x ++ y) H := by
  intro k q hq
  rw [List.getElem?_append] at hq
  split at hq
  · exact h1 _ _ hq
  · exact h2 _ _ hq
theorem va_P_left {D : va_G} {cl : List vw_C} {x y : va_W} {H : Heap} (h : va_P D cl (x ++ y) H) : va_P D cl x H := by
  intro k q hq
  exact h k q (by rw [List.getElem?_append_left (List.getElem?_eq_some_iff.mp hq).1]; exact hq)
section LC
variable {p : Program} {l : Launch} {e : Env} {R : Room} {s : State} {m : MethodId} {args : Array Value} {below : List Frame} {meth : Method} {c : Code} {H : Heap} {locs : List Loc} {cells slots : Nat} {Q : State → Prop}
theorem r_W {mc ms pc : Nat} {ls : Array Slot} {st0 rest : List Value} {Qa : State → Outcome → State → Prop} {free : Addr → Prop}
    (hr : va_Run p l e R s m args below meth c H locs cells slots mc ms (F0 m pc ls st0) rest Qa free)
    (kk : ∀ (v : Option Value) (st₀ t : State) (H1 : Heap) (locs1 : List Loc), st₀.heap = H → Qa st₀ (.returned v) t → t.heap = H1 → (∀ x ∈ locs1, x ∈ locs ∨ free x.base) → W p l e R s m args below meth c H1 locs1 (cells + mc) (slots + ms) Q (F0 m (pc + 3) ls (v.toList ++ rest))) :
    W p l e R s m args below meth c H locs cells slots Q (F0 m pc ls st0) := by
  intro T hT X
  obtain ⟨v, st₀, t, T', L, h0, X', hL, e1, e2, hq, st⟩ := hr T hT X
  obtain ⟨t2, a1, b1⟩ := kk v st₀ t T'.heap (locs ++ L) h0 hq e1.symm (fun x hx => by
    rcases List.mem_append.mp hx with h | h
    · exact Or.inl h
    · exact Or.inr (hL x h)) T' rfl X'
  exact ⟨t2, st t2 a1, b1⟩
variable {S : z_S} {fk : Nat → List Nat} {ad : z_N → Nat} {cA : Nat → ClassId} {D : va_G} {cl : List vw_C} {tys : List (ClassId × FieldType)} {A : Nat → Prop} {Ts Ws Ns : List Jvm.Cond} {jn hst : String} {nM : Nat} {M : Nat → z_M} {C : Nat → Nat → Option z_I} {cc : ByteArray} {own : String}
/-- a call of a method of the machine's table out of any frame -/
theorem g_call (ok : z_OK S fk ad cA cl tys A Ts Ws Ns jn hst nM M C) {mi n : Nat} (hmi : mi < nM) {g o : Nat} {as' : List z_V} {w w' : z_W} {r : Option z_V}
    (hrun : z_run S M C n mi (0, z_entry (M mi).2.2.1 (.inr (.inr (some (g, o))) :: as'), [], w) = some (w', r)) (hal : (z_args (.inr (.inr (some (g, o))) :: as')).length ≤ (M mi).2.2.1) (hva : z_vs S (.inr (.inr (some (g, o))) :: as')) (hvw : z_vw S w)
    (hg : S.1 g = (M mi).2.2.2.2.2.1) (h4 : (M mi).2.2.2.2.2.1 ≠ 0) (hlen : as'.length + 1 = (M mi).2.2.2.2.1)
    (hx : p.tables.exec = Jvm.exec) (hb : c.code = cc) {nL : Nat} (hml : c.maxLocals = nL) (hown : s.vm.findClass own = some m.cls) (hts : ∀ w ∈ Ts, w.before args s = true) (hN : ∀ w ∈ Ns, va_Nw w s) (hK : va_K D cl tys s)
    (hRf : (M mi).2.2.2.2.2.2.1 + 1 ≤ R.frames) (hRl : 8 + ((M mi).2.2.1 + 11) + (M mi).2.2.2.2.2.2.2 ≤ R.locals) (hP : va_P D cl (z_ws S fk ad cA w) H) {index pc : Nat} (hlk : Jvm.Cond.methodLink own index (M mi).1 ∈ Ts)
    {ls : Array Slot} (hls : ls.size = nL) {rest : List Value} (hcat : (rest.map fun v => v.category).sum ≤ 8) (hd : decode cc pc = .ok (.invokevirtual index, 3)) (hcs : cells ≤ R.cells ∧ slots ≤ R.slots) :
    va_Run p l e R s m args below meth c H locs cells slots 0 0 (F0 m pc ls ((as'.map (z_v ad)).reverse ++ Value.ref (ad (g, o)) :: rest)) rest (z_Qc S fk ad cA D cl A w' r (Value.ref (ad (g, o)) :: as'.map (z_v ad)).toArray) A := by
  have ok' := ok
  obtain ⟨⟨o1, o1n⟩, o2, o3, o4, ⟨o5, o5r⟩, ⟨o6a, o6b, o6c⟩, o7, o8, o9, o10⟩ := ok'
  obtain ⟨m1, m2, m3, m4, m5, m6, m7⟩ := o9 mi hmi
  obtain ⟨m8, m9, ci, T, N, m10, m11⟩ := m7 h4
  have hin : (g, o) ∈ S.2.2.2.2 := hva (.inr (.inr (some (g, o)))) List.mem_cons_self
  obtain ⟨jj, hj⟩ := List.getElem?_of_mem hin
  have he := z_ws_at (fk := fk) (ad := ad) (cA := cA) (w := w) hj
  rw [z_cell_o (o := (g, o)) (a := ci) (by rw [hg]; exact m10)] at he
  have hcell := va_recv hK hP m11 he
  have hpar : ∀ sig, parseMethodDescriptor (M mi).1.desc = some sig → as'.length = sig.parameters.length := by
    intro sig hsig
    have := m5 sig hsig
    rw [if_neg h4] at this
    omega
  have blind : FrameBlind (z_Pc S fk ad cA D cl tys Ns (.inr (.inr (some (g, o))) :: as') w) := by
    intro a U g1 mk hq
    obtain ⟨q0, qP, qK, qN⟩ := hq
    exact ⟨q0, qP, va_K.moved (u := U) (U := U.calling g1 mk a) (Vm.Alike.refl U.vm) qK, fun x hx1 => va_Nw.same (u := U) (U := U.calling g1 mk a) (o3 x hx1) rfl (qN x hx1)⟩
  have pre : ∀ U : State, U.heap = H → s.WarmedH U.vm → z_Pc S fk ad cA D cl tys Ns (.inr (.inr (some (g, o))) :: as') w (Value.ref (ad (g, o)) :: as'.map (z_v ad)).toArray U := fun U hU hW =>
    ⟨rfl, by rw [hU]; exact hP, va_K.moved hW.alike hK, fun x hx1 => o4 x hx1 s U hW (hN x hx1)⟩
  exact va_runV (As := as'.map (z_v ad)) (b := ad (g, o)) (C := (M mi).1.cls) (index := index) (bytes := (M mi).2.1) (maxL := (M mi).2.2.1) (ret := (M mi).2.2.2.1) (n := as'.length) ⟨hx, hb, hml, hown, hts⟩ (z_met (z_wr ok n) ok hmi hrun hal hva hvw)
    ⟨⟨rfl, rfl, hRf, hRl, fun x hx1 a' U hW => by
      have hxT : x ∈ Ts := by
        rcases List.mem_cons.mp hx1 with rfl | h
        · exact m3
        · exact h
      exact word_at hW (good_of_word (o2 x hxT)) (hts x hxT), List.mem_cons_self, hts _ m3, hts _ m4, m2, hpar, hts _ hlk⟩, hts _ m8, hts _ m9⟩
    ⟨blind, hcell, pre⟩ rfl (by simp) hls rfl (lv_room hcat) hd ⟨hcs.1, hcs.2⟩
/-- a call of a static method with an exception table -/
theorem s_run {y : MethodName} {bytes : ByteArray} {maxL nL mc ms n index : Nat} {ret : Option FieldType} {hh : List (Nat × Nat × Nat × Nat)} {ws : List Jvm.Cond} {rm : Room} {Pc : Array Value → State → Prop} {Qc : Array Value → State → Outcome → State → Prop} {free : Addr → Prop} {As rest : List Value} {g : JFrame}
    (hx : p.tables.exec = Jvm.exec) (hb : c.code = cc) (hml : c.maxLocals = nL) (hown : s.vm.findClass own = some m.cls) (hM : Met l y ws rm Pc Qc mc ms free) (hblind : FrameBlind Pc) (hrc : rm.cells = mc) (hrs : rm.slots = ms)
    (hfr : rm.frames + 1 ≤ R.frames) (hlo : 8 + (maxL + 11) + rm.locals ≤ R.locals) (hws : ∀ w ∈ ws, ∀ (a' : Array Value) (U : State), s.WarmedH U.vm → w.before a' U = true) (hcw : Jvm.Cond.codeWith y bytes maxL ret hh ∈ ws)
    (hini : (Jvm.Cond.initialized y.cls).before args s = true) (hstat : (Jvm.Cond.static y).before args s = true) (hlink : (Jvm.Cond.methodLink own index y).before args s = true) (hy : y.cls ≠ "java/lang/invoke/MethodHandle" ∧ y.cls ≠ "java/lang/invoke/VarHandle")
    (hlen : ∀ sig, parseMethodDescriptor y.desc = some sig → As.length = sig.parameters.length) (hg : g.method = m) (hsize : g.locals.size = nL) (hstack : g.stack = As.reverse ++ rest) (hW : 2 * g.monitorRoom + (rest.map fun v => v.category).sum ≤ 8) (hdg : decode cc g.pc = .ok (.invokestatic index, 3)) (hf : cells + mc ≤ R.cells ∧ slots + ms ≤ R.slots)
    (hPc : ∀ U : State, U.heap = H → s.WarmedH U.vm → Pc As.toArray U) :
    va_Run p l e R s m args below meth c H locs cells slots mc ms g rest (Qc As.toArray) free := by
  have hK : Back l R p e below s args y 3 8 (PreOf R mc ms Pc) (PostOf Qc mc ms free) := va_backW (bytes := bytes) (maxL := maxL) (ret := ret) (hh := hh) hM hblind hrc hrs hfr hlo hws hcw (fun a' U hW1 => word_at hW1 (Or.inl (by first | rfl | simp [Cond.onTables, Cond.keeps, Cond.steady])) hini)
  intro T hT X
  obtain ⟨mk, methM, cM, hnamed, hmethM, -, -, -, -, -, -, hsigM⟩ := Cond.codeWith_spec (hws _ hcw args s (State.WarmedH.refl s))
  have hstatic : methM.isStatic = true := Cond.static_spec hnamed hmethM hstat
  obtain ⟨kP, hkP, -⟩ := className_of_methodNamed hnamed
  have hinitP : kP.init = .initialized := Cond.initialized_spec (findClass_of_methodNamed hnamed) hkP hini
  have hdg' : decode c.code g.pc = .ok (.invokestatic index, 3) := by rw [hb]; exact hdg
  obtain ⟨vm₁, X₁, hstep₁⟩ := X.invokestatic hx hown hlink hnamed hmethM hstatic hkP hinitP hy (g := g) hg (argsL := As) (rest := rest) (hlen _ hsigM) hstack hdg'
  obtain ⟨v, ⟨U', l2, c2, s2⟩, X', ⟨g', mk', t, L, e1, e2, hq, h1, hL, h2, h3⟩, hsteps⟩ := hK m meth c ⟨T.setVm vm₁, locs, cells, slots⟩ { g with stack := rest } (.invokestatic index) mk As.toArray X₁ hg (hsize.trans hml.symm) hdg' hW (X₁.named hnamed) ⟨hf.1, hf.2, hPc (T.setVm vm₁) hT X₁.warmed⟩
  dsimp only [Pt.U, Pt.locs, Pt.cells, Pt.slots] at X' e1 e2 h1 h2 h3 hsteps
  subst h1; subst h2; subst h3
  exact ⟨v, (T.setVm vm₁).calling g' mk' As.toArray, t, U', L, hT, X', hL, e1, e2, hq, fun target h => hstep₁ _ fun acts => by rw [doInvoke_state]; exact hsteps.trans h⟩
end LC
