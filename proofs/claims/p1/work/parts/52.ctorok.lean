/-! the second machine's walk -/
def y_chk (cl : List vw_C) (fk : Nat → List Nat) (nM : Nat) (M : Nat → z_M) (Ws : List Jvm.Cond) (jn own : String) (cc : ByteArray) (fr lo : Nat) (pc : Nat) (I : z_I) : Bool :=
  decide (decode cc pc = .ok (I.1, I.2.1)) &&
  match I with
  | (ins, len, a, b, t, q, c, _) => match ins with
    | .iconst n => decide (len = 1) && decide (Int32.ofInt n = c)
    | .bipush n => decide (len = 2) && decide ((Int8.ofInt n).toInt32 = c)
    | .sipush n => decide (len = 3) && decide ((Int16.ofInt n).toInt32 = c)
    | .iinc _ n => decide (len = 3) && decide (Int32.ofInt n = c)
    | .if_icmp _ off => decide (len = 3) && decide ((pc : Int) + off = (a : Int))
    | .goto off => decide (len = 3) && decide ((pc : Int) + off = (a : Int))
    | .new i => decide (len = 3) && (match cl[a]? with
      | some (C, _, _) => decide (Ws[q]? = some (.classLink own i C))
      | none => false)
    | .newarray _ => decide (len = 2)
    | .anewarray i => decide (len = 3) && decide (Ws[q]? = some (.classLink own i jn))
    | .getfield i => decide (len = 3) && z_cf cl fk Ws "" own i a b t q && decide (q % 2 = 0)
    | .putfield i => decide (len = 3) && z_cf cl fk Ws "" own i a b t q && decide (q % 2 = 0) && (match cl[a]? with
      | some (C, T, _) => decide (C = own) && (match parseFieldDescriptor (T b).2.2.1 with
        | some .int => decide (t = 0)
        | some .boolean => decide (t = 1)
        | some (.object _) => decide (t = 2)
        | some (.array _) => decide (t = 2)
        | _ => false)
      | none => false)
    | .aastore => decide (len = 1) && decide ((cl[a]?).map (fun x => x.1) = some jn)
    | .invokespecial i => decide (len = 3) && (match t with
      | 0 => decide (Ws[q]? = some (.methodLink own i (M a).1)) && z_cr nM M fr lo a
      | _ => decide (Ws[q]? = some (.methodLink own i Lib.objectInit)) && decide (1 ≤ fr) && decide (20 ≤ lo))
    | _ => decide (len = 1)
def y_MO (Ts : List Jvm.Cond) (mt : z_M) : Prop :=
  plainName mt.1.cls = true ∧ (mt.1.cls ≠ "java/lang/invoke/MethodHandle" ∧ mt.1.cls ≠ "java/lang/invoke/VarHandle") ∧ Jvm.Cond.code mt.1 mt.2.1 mt.2.2.1 mt.2.2.2.1 ∈ Ts ∧ Jvm.Cond.initialized mt.1.cls ∈ Ts ∧
  (∀ sig, parseMethodDescriptor mt.1.desc = some sig → mt.2.2.2.2.1 = sig.parameters.length + 1) ∧ Jvm.Cond.instanceMethod mt.1 ∈ Ts ∧ mt.1.name = "<init>" ∧ mt.2.2.2.1 = none
section YW
variable {p : Program} {l : Launch} {e : Env} {R : Room} {s : State} {m : MethodId} {args : Array Value} {below : List Frame} {meth : Method} {c : Code} {H : Heap} {locs : List Loc} {cells slots : Nat} {Q : State → Prop}
variable {cc : ByteArray} {pc : Nat} {ls : Array Slot} {rest : List Value} {D : va_G} {cl : List vw_C} {tys : List (ClassId × FieldType)} {ws : va_W}
theorem y_P_app {H1 : Heap} {q : Nat} {x : va_E} (hP : va_P D cl ws H) (o1 : ∀ k, k < H.size → H1[k]? = H[k]?) (hx : va_at D cl (q, x) H1) : va_P D cl (ws ++ [(q, x)]) H1 := by
  refine (hP.kept (fun k z hz => o1 z.1 ((hP k z hz).lt))).app (fun k z hz => ?_)
  have hz2 : k < 1 := (List.getElem?_eq_some_iff.mp hz).1
  rw [show k = 0 by omega] at hz
  cases hz
  exact hx
theorem y_new (hexec : p.tables.exec = Jvm.exec) (hb : c.code = cc) {own C : String} {T : u_T} {N ci index q : Nat} {Ts : List Jvm.Cond} (hts : ∀ w ∈ Ts, w.before args s = true) (hin : ∀ w ∈ u_ws C T N, w ∈ Ts) (ty : Nat → FieldType) (hty : ∀ k, k < N → parseFieldDescriptor (T k).2.2.1 = some (ty k)) (hown : s.vm.findClass own = some m.cls) (hcl : (Jvm.Cond.classLink own index C).before args s = true) (hinst : (Jvm.Cond.instantiable C N).before args s = true) (hini : (Jvm.Cond.initialized C).before args s = true)
    (hK : va_K D cl tys s) (hP : va_P D cl ws H) (hc : cl[ci]? = some (C, T, N)) {fs : List Value} (hfs : ∀ j, j < N → defaultValue (ty j) = vp_V fs j) (hcells : cells + 1 ≤ R.cells) (hslots : slots + N ≤ R.slots) (hdg : decode cc pc = .ok (.new index, 3)) (hz : H.size = q)
    (kk : ∀ H1 : Heap, H1.size = q + 1 → va_P D cl (ws ++ [(q, .inr (ci, fs))]) H1 → (∀ x, x < q → H1[x]? = H[x]?) → W p l e R s m args below meth c H1 locs (cells + 1) (slots + N) Q (F0 m (pc + 3) ls (.ref q :: rest))) : W p l e R s m args below meth c H locs cells slots Q (F0 m pc ls rest) := by
  have hKn := hK.1 ci _ hc
  subst hz
  refine W.newcK hexec hb hown hcl hinst hini rfl hdg hcells hslots hKn.2.1 rfl fun H1 kC hkC e1 z1 o1 => ?_
  exact kk H1 z1 (y_P_app hP o1 ⟨_, hc, (u_born ty hts hin hKn hkC e1 hty).to hfs⟩) o1
theorem y_newa (hexec : p.tables.exec = Jvm.exec) (hb : c.code = cc) {atype : ArrayType} (harr : (Jvm.Cond.arrayClass (newarray.typeOf atype)).before args s = true) {q : Nat} {cA : ClassId} (hA : s.vm.findClass ("[" ++ (newarray.typeOf atype).toString) = some cA) (hP : va_P D cl ws H)
    {n : Int32} {N' : Nat} {a0 : vp_A} (ha : ∀ cA : ClassId, vp_cell cA a0 = arrV cA N' (fun _ => defaultValue (newarray.typeOf atype))) (hn : ¬ n < 0) (hN : n.toNatClampNeg = N') (hbytes : N' * componentBytes (newarray.typeOf atype) ≤ 536870912) (hcells : cells + 1 ≤ R.cells) (hslots : slots + N' ≤ R.slots) (hdg : decode cc pc = .ok (.newarray atype, 2)) (hz : H.size = q)
    (kk : ∀ H1 : Heap, H1.size = q + 1 → va_P D cl (ws ++ [(q, .inl (cA, a0))]) H1 → (∀ x, x < q → H1[x]? = H[x]?) → W p l e R s m args below meth c H1 locs (cells + 1) (slots + N') Q (F0 m (pc + 2) ls (.ref q :: rest))) : W p l e R s m args below meth c H locs cells slots Q (F0 m pc ls (.int n :: rest)) := by
  subst hz
  refine va_newaK hexec hb harr rfl hdg rfl hn hN hbytes hcells hslots rfl fun H1 cA1 e1 z1 o1 hAr hNm => ?_
  cases hA.symm.trans hNm
  refine kk H1 z1 (y_P_app hP o1 ?_) o1
  show H1[H.size]? = some (vp_cell _ _)
  rw [ha]
  exact e1
theorem y_newq (hexec : p.tables.exec = Jvm.exec) (hb : c.code = cc) {own C : String} {index q : Nat} {cA : ClassId} (hown : s.vm.findClass own = some m.cls) (hclink : (Jvm.Cond.classLink own index C).before args s = true) (hover : va_AO C s) (hA : s.vm.findClass ("[" ++ (FieldType.object C).toString) = some cA) (hP : va_P D cl ws H)
    {n : Int32} {N' : Nat} (hn : ¬ n < 0) (hN : n.toNatClampNeg = N') (hbytes : N' * 4 ≤ 536870912) (hcells : cells + 1 ≤ R.cells) (hslots : slots + N' ≤ R.slots) (hdg : decode cc pc = .ok (.anewarray index, 3)) (hz : H.size = q)
    (kk : ∀ H1 : Heap, H1.size = q + 1 → va_P D cl (ws ++ [(q, .inl (cA, N', .inr (.inr (.inr (.inr (fun _ => none))))))]) H1 → (∀ x, x < q → H1[x]? = H[x]?) → W p l e R s m args below meth c H1 locs (cells + 1) (slots + N') Q (F0 m (pc + 3) ls (.ref q :: rest))) : W p l e R s m args below meth c H locs cells slots Q (F0 m pc ls (.int n :: rest)) := by
  subst hN
  subst hz
  refine W.anew hexec hb hown hclink (va_AO.use hover) rfl hdg rfl hn hbytes hcells hslots fun cA1 kA comp f1 f2 f3 f4 => ?_
  cases hA.symm.trans f1
  generalize hH1 : H.push ({ cls := cA, slots := Array.replicate n.toNatClampNeg .null, vm := .none } : Cell) = H1
  have z1 : H1.size = H.size + 1 := by rw [← hH1, Array.size_push]
  have e1 : H1[H.size]? = some (arrV cA n.toNatClampNeg (fun _ => .null)) := by rw [← hH1, Array.getElem?_push_size, ← arrV_new]
  have o1 : ∀ q : Nat, q < H.size → H1[q]? = H[q]? := fun q hq => by rw [← hH1, Array.getElem?_push, if_neg (Nat.ne_of_lt hq)]
  refine kk H1 z1 (y_P_app hP o1 ?_) o1
  show H1[H.size]? = some (vp_cell _ _)
  rw [e1]
  rfl
end YW
def y_sum (h : y_H) : Nat := (h.map y_sl).sum
theorem y_sum_push (h : y_H) (e : y_E) : y_sum (h ++ [e]) = y_sum h + y_sl e := by simp [y_sum]
theorem y_sum_set {h : y_H} {o : Nat} {e e' : y_E} (ho : h[o]? = some e) (he : y_sl e' = y_sl e) : y_sum (h.set o e') = y_sum h := by
  unfold y_sum
  rw [List.map_set]
  congr 1
  apply List.ext_getElem?
  intro k
  by_cases hk : k = o
  · subst hk
    have hl := (List.getElem?_eq_some_iff.mp ho).1
    rw [List.getElem?_set_self (by simpa using hl), List.getElem?_map, ho]
    simp [he]
  · rw [List.getElem?_set_ne (Ne.symm hk)]
/-! a field or a place is written: the size stays -/
section YP
variable {p : Program} {l : Launch} {e : Env} {R : Room} {s : State} {m : MethodId} {args : Array Value} {below : List Frame} {meth : Method} {c : Code} {H : Heap} {locs : List Loc} {cells slots : Nat} {Q : State → Prop}
variable {cc : ByteArray} {pc a : Nat} {ls : Array Slot} {rest : List Value} {D : va_G} {cl : List vw_C} {tys : List (ClassId × FieldType)} {ws : va_W} {A : Nat → Prop} {H0 : Heap} {own ref C : String} {T : u_T} {N ci index : Nat} {Ts : List Jvm.Cond}
theorem y_fld (hts : ∀ w ∈ Ts, w.before args s = true) (hin : ∀ w ∈ u_ws C T N, w ∈ Ts) (ty0 : Nat → FieldType) (hty : ∀ k, k < N → parseFieldDescriptor (T k).2.2.1 = some (ty0 k)) (hnm : ∀ a, a < N → ∀ b, b < N → a ≠ b → (T a).2.1 ≠ (T b).2.1) (hK : va_K D cl tys s) (hP : va_P D cl ws H) (hD : va_D A ws) {q0 : Nat} {fs : List Value} (he : ws[q0]? = some (a, .inr (ci, fs))) (hc : cl[ci]? = some (C, T, N)) {k : Nat} (hk : k < N) {v : Value} (hl : k < fs.length) :
    ∃ (cell : Cell) (cf : Nat) (kf : Class) (fi : Nat) (f : Field) (kC : Class), H[a]? = some cell ∧ cell.cls = D.1 ci ∧ cell.vm = .none ∧ s.fieldFound? (T k).1 (T k).2.1 (T k).2.2.1 = some (cf, kf, fi, f) ∧ f.isStatic = false ∧ f.slot < cell.slots.size ∧ s.vm.findClass C = some (D.1 ci) ∧ s.vm.classes[D.1 ci]? = some kC ∧ kC.kind = .ordinary ∧
      ∀ H1 : Heap, H1[a]? = some (cell.setSlot f.slot v) → (∀ q, q ≠ a → H1[q]? = H[q]?) → va_P D cl (ws.set q0 (a, .inr (ci, fs.set k v))) H1 := by
  have hap := va_apart (own := C) hts hin ty0 hty hnm hK hc
  obtain ⟨r, h1, cell, q1, q2, q3, q4⟩ := hP q0 _ he
  have hr : r = (C, T, N) := Option.some.inj (h1.symm.trans hc)
  subst hr
  obtain ⟨hS, hfc, kC, hkC, hkind⟩ := hK.1 ci _ hc
  obtain ⟨cf, kf, fi, f, hi, hsl⟩ := hS k hk
  refine ⟨cell, cf, kf, fi, f, kC, q1, q2, q3, hi, (u_facts hfc hkC (u_lays hts hin hk) hi).1, by rw [hsl]; exact k2_hasslot (q4 k hk), hfc, hkC, hkind, fun H1 e1 e3 => ?_⟩
  rw [hsl] at e1
  exact hP.set hD he ⟨_, hc, t_OB.to (V := updV (vp_V fs) k v) ⟨_, e1, q2, q3, t_set q4 hap hk v⟩ (fun j _ => vp_updV_set hl v j)⟩ e3
theorem y_put (hexec : p.tables.exec = Jvm.exec) (hb : c.code = cc) (hts : ∀ w ∈ Ts, w.before args s = true) (hin : ∀ w ∈ u_ws C T N, w ∈ Ts) (ty0 : Nat → FieldType) (hty : ∀ k, k < N → parseFieldDescriptor (T k).2.2.1 = some (ty0 k)) (hnm : ∀ a, a < N → ∀ b, b < N → a ≠ b → (T a).2.1 ≠ (T b).2.1) (hown : s.vm.findClass own = some m.cls) (hK : va_K D cl tys s) (hP : va_P D cl ws H) (hD : va_D A ws) (hS0 : va_S A H0 H locs) (q0 : Nat) {fs : List Value} (he : ws[q0]? = some (a, .inr (ci, fs))) (hc : cl[ci]? = some (C, T, N)) (k : Nat) (hk : k < N) (hlink : (Jvm.Cond.fieldLink own index ref (T k).2.1 (T k).2.2.1).before args s = true) (hsame : ∀ x, s.fieldFound? (T k).1 (T k).2.1 (T k).2.2.1 = some x → s.fieldFound? ref (T k).2.1 (T k).2.2.1 = some x) (hfin : (T k).2.2.2 = false) {ty : FieldType} {v : Value} (hd : parseFieldDescriptor (T k).2.2.1 = some ty) (hn : narrow ty v = v) (hfit : fits ty v = true) (hl : k < fs.length)
    (hdg : decode cc pc = .ok (.putfield index, 3)) (kk : ∀ (H1 : Heap) (locs1 : List Loc), H1.size = H.size → va_P D cl (ws.set q0 (a, .inr (ci, fs.set k v))) H1 → va_S A H0 H1 locs1 → W p l e R s m args below meth c H1 locs1 cells slots Q (F0 m (pc + 3) ls rest)) : W p l e R s m args below meth c H locs cells slots Q (F0 m pc ls (v :: .ref a :: rest)) := by
  obtain ⟨cell, cf, kf, fi, f, kC, q1, q2, q3, hi, hst, hlt, hfc, hkC, hkind, hup⟩ := y_fld (v := v) hts hin ty0 hty hnm hK hP hD he hc hk hl
  have hlay := hts _ (hin _ (u_in_lay hk))
  unfold u_lay at hlay
  rw [if_neg (by rw [hfin]; decide)] at hlay
  have h6 := u_store hfc hkC hkind hlay hi hd hn hfit
  exact W.putK hexec hb (f := f) ⟨hown, hlink, ⟨_, _, _, hsame _ hi⟩, hst⟩ (by rw [q2]; exact h6) q1 q3 hlt rfl rfl hdg fun H' e1 e2 e3 => kk H' _ e2 (hup H' e1 e3) (hS0.put e2 e3 (hD.2 q0 _ he))
theorem y_putF (hexec : p.tables.exec = Jvm.exec) (hb : c.code = cc) (hts : ∀ w ∈ Ts, w.before args s = true) (hin : ∀ w ∈ u_ws C T N, w ∈ Ts) (ty0 : Nat → FieldType) (hty : ∀ k, k < N → parseFieldDescriptor (T k).2.2.1 = some (ty0 k)) (hnm : ∀ a, a < N → ∀ b, b < N → a ≠ b → (T a).2.1 ≠ (T b).2.1) (hown : s.vm.findClass own = some m.cls) (hK : va_K D cl tys s) (hP : va_P D cl ws H) (hD : va_D A ws) (hS0 : va_S A H0 H locs) (q0 : Nat) {fs : List Value} (he : ws[q0]? = some (a, .inr (ci, fs))) (hc : cl[ci]? = some (C, T, N)) (k : Nat) (hk : k < N) (hlink : (Jvm.Cond.fieldLink own index ref (T k).2.1 (T k).2.2.1).before args s = true) (hsame : ∀ x, s.fieldFound? (T k).1 (T k).2.1 (T k).2.2.1 = some x → s.fieldFound? ref (T k).2.1 (T k).2.2.1 = some x) (hfin : (T k).2.2.2 = true) (hin2 : meth.name = "<init>") (hdecl : (T k).1 = own) {ty : FieldType} {v : Value} (hd : parseFieldDescriptor (T k).2.2.1 = some ty) (hn : narrow ty v = v) (hfit : fits ty v = true) (hl : k < fs.length)
    (hdg : decode cc pc = .ok (.putfield index, 3)) (kk : ∀ (H1 : Heap) (locs1 : List Loc), H1.size = H.size → va_P D cl (ws.set q0 (a, .inr (ci, fs.set k v))) H1 → va_S A H0 H1 locs1 → W p l e R s m args below meth c H1 locs1 cells slots Q (F0 m (pc + 3) ls rest)) : W p l e R s m args below meth c H locs cells slots Q (F0 m pc ls (v :: .ref a :: rest)) := by
  obtain ⟨cell, cf, kf, fi, f, kC, q1, q2, q3, hi, hst, hlt, hfc, hkC, hkind, hup⟩ := y_fld (v := v) hts hin ty0 hty hnm hK hP hD he hc hk hl
  have hlay := hts _ (hin _ (u_in_lay hk))
  unfold u_lay at hlay
  rw [if_pos hfin] at hlay
  have hcf : m.cls = cf := by
    obtain ⟨_, _, c', _, _, _, -, -, hf', -, -, -, hown2, -⟩ := Cond.laysFinal_spec hlay
    have e1 : c' = cf := by have := hi.symm.trans hf'; simp at this; exact this.1.symm
    rw [hdecl] at hown2
    rw [← e1]; exact Option.some.inj (hown.symm.trans hown2)
  have h6 := u_fits hfc hkC hkind (Or.inr hlay) hi hd hn hfit
  exact W.putFinK hexec hb hown hlink (hsame _ hi) hst hcf hin2 (by rw [q2]; exact h6) q1 q3 hlt rfl rfl hdg fun H' e1 e2 e3 => kk H' _ e2 (hup H' e1 e3) (hS0.put e2 e3 (hD.2 q0 _ he))
theorem y_astq (hexec : p.tables.exec = Jvm.exec) (hb : c.code = cc) (hK : va_K D cl tys s) (hP : va_P D cl ws H) (hD : va_D A ws) (hS : va_S A H0 H locs) (q0 t0 qk ci : Nat) {cA : ClassId} {r : vw_C} {n v : Nat} {vs : List Value} {f : Nat → Option Nat} (ha : ws[q0]? = some (a, .inl (cA, n, .inr (.inr (.inr (.inr f)))))) (ht : tys[t0]? = some (cA, .object r.1)) (hv : ws[qk]? = some (v, .inr (ci, vs))) (hc : cl[ci]? = some r) {i : Int32} (hin : vp_in i n) (hdg : decode cc pc = .ok (.aastore, 1))
    (kk : ∀ (H1 : Heap) (locs1 : List Loc), H1.size = H.size → va_P D cl (ws.set q0 (a, .inl (cA, n, .inr (.inr (.inr (.inr (va_up f i.toNatClampNeg (some v)))))))) H1 → va_S A H0 H1 locs1 → W p l e R s m args below meth c H1 locs1 cells slots Q (F0 m (pc + 1) ls rest)) : W p l e R s m args below meth c H locs cells slots Q (F0 m pc ls (.ref v :: .int i :: .ref a :: rest)) := by
  have hlt : i.toNatClampNeg < n := Nat.not_le.mp fun q => hin (Or.inr q)
  have h0 : ¬ i < 0 := fun q => hin (Or.inl q)
  obtain ⟨r', hr', cellV, g1, g2, g3, -⟩ := hP qk _ hv
  have hcls := (hK.1 ci r hc).2
  obtain ⟨kA, comp, k1, k2, k3, -⟩ := (hK.2 t0 _ ht).2
  have hcomp : comp = D.1 ci := Option.some.inj (k3.symm.trans hcls.1)
  subst hcomp
  obtain ⟨kC, hkC, -⟩ := hcls.2
  refine W.aast hexec hb (hP q0 _ ha) (fun q h => by cases h) (fun h => by cases h) k1 k2 rfl hkC ⟨h0, by show _ < (arrV _ _ _).slots.size; rw [arrV_size]; exact hlt⟩ g1 (fun q h => by rw [g3] at h; cases h) (by rw [g2]; exact hkC) (by rw [g2]; exact va_assign hcls) rfl rfl hdg fun H1 e z oq => ?_
  refine kk H1 _ z (hP.set hD ha ?_ oq) (hS.put z oq (hD.2 q0 _ ha))
  show H1[a]? = some (vp_cell _ _)
  rw [e, vp_cell_q, vp_cell_q, arrV_store]
  congr 2
  funext q
  by_cases hq : q = i.toNatClampNeg
  · subst hq
    simp [updV, va_up, va_rf]
  · simp [updV, va_up, hq]
end YP
