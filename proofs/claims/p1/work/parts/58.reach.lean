/-! a run up to a place that the codes leave out -/
def z_stk (S : z_S) (M : Nat → z_M) (C : Nat → Nat → Option z_I) : Nat → Nat → z_F → Option z_F
  | 0, _, _ => none
  | n + 1, mi, (pc, L, st, w) => match C mi pc with
    | none => some (pc, L, st, w)
    | some I => match z_step S M I pc L st w with
      | none => none
      | some (.inl f) => z_stk S M C n mi f
      | some (.inr (.inl _)) => none
      | some (.inr (.inr (mj, as, rest))) => match z_run S M C n mj (0, z_entry (M mj).2.2.1 as, [], w) with
        | none => none
        | some (w', r) => z_stk S M C n mi (pc + 3, L, r.toList ++ rest, w')
theorem z_cr_mono {nM fr lo fr' lo' a : Nat} {M : Nat → z_M} (h : z_cr nM M fr lo a = true) (hf : fr ≤ fr') (hl : lo ≤ lo') : z_cr nM M fr' lo' a = true := by
  unfold z_cr at h ⊢
  simp only [Bool.and_eq_true, decide_eq_true_eq] at h ⊢
  exact ⟨⟨h.1.1, by omega⟩, by omega⟩
theorem z_ca_mono {Ws : List Jvm.Cond} {own : String} {i fr lo fr' lo' : Nat} (h : z_ca Ws own i fr lo = true) (hf : fr ≤ fr') (hl : lo ≤ lo') : z_ca Ws own i fr' lo' = true := by
  unfold z_ca at h ⊢
  simp only [Bool.and_eq_true, decide_eq_true_eq] at h ⊢
  exact ⟨⟨h.1.1, by omega⟩, by omega⟩
theorem z_chk_mono {cl : List vw_C} {fk : Nat → List Nat} {nM : Nat} {M : Nat → z_M} {Ws : List Jvm.Cond} {jn hst own : String} {cc : ByteArray} {rt : Option FieldType} {fr lo fr' lo' pc : Nat} {I : z_I}
    (h : z_chk cl fk nM M Ws jn hst own cc rt fr lo pc I = true) (hf : fr ≤ fr') (hl : lo ≤ lo') : z_chk cl fk nM M Ws jn hst own cc rt fr' lo' pc I = true := by
  obtain ⟨ins, len, a, b, t, q, c0, d⟩ := I
  unfold z_chk at h ⊢
  rw [Bool.and_eq_true] at h ⊢
  refine ⟨h.1, ?_⟩
  have h := h.2
  cases ins
  case invokevirtual i =>
    simp only [Bool.and_eq_true] at h ⊢
    exact ⟨⟨h.1.1, z_cr_mono h.1.2 hf hl⟩, h.2⟩
  case invokestatic i =>
    cases t with
    | zero =>
      simp only [Bool.and_eq_true] at h ⊢
      exact ⟨h.1, ⟨h.2.1.1, z_cr_mono h.2.1.2 hf hl⟩, h.2.2⟩
    | succ t =>
      simp only [Bool.and_eq_true] at h ⊢
      exact ⟨h.1, z_ca_mono h.2 hf hl⟩
  all_goals exact h
section ZK
variable {p : Program} {l : Launch} {e : Env} {R : Room} {s : State} {m : MethodId} {args : Array Value} {below : List Frame} {meth : Method} {c : Code} {Q : State → Prop}
variable {S : z_S} {fk : Nat → List Nat} {ad : z_N → Nat} {cA : Nat → ClassId} {D : va_G} {cl : List vw_C} {tys : List (ClassId × FieldType)} {A : Nat → Prop} {Ts Ws Ns : List Jvm.Cond} {jn hst : String} {nM : Nat} {M : Nat → z_M} {C : Nat → Nat → Option z_I}
theorem z_wstk (ok : z_OK S fk ad cA cl tys A Ts Ws Ns jn hst nM M C) {mi : Nat} (hmi : mi < nM) (hx : p.tables.exec = Jvm.exec) (hb : c.code = (M mi).2.1) (hml : c.maxLocals = (M mi).2.2.1) (hown : s.vm.findClass (M mi).1.cls = some m.cls) (hts : ∀ w ∈ Ts, w.before args s = true) (hNs : ∀ w ∈ Ns, va_Nw w s) (hK : va_K D cl tys s)
    (hRf : (M mi).2.2.2.2.2.2.1 ≤ R.frames) (hRl : (M mi).2.2.2.2.2.2.2 ≤ R.locals) {f' : z_F}
    (kk : ∀ (ls : Array Slot) (H : Heap) (locs : List Loc), z_hl ad ls (M mi).2.2.1 f'.2.1 → va_P D cl (z_ws S fk ad cA f'.2.2.2) H → va_S A s.heap H locs → W p l e R s m args below meth c H locs 0 0 Q (F0 m f'.1 ls (f'.2.2.1.map (z_v ad)))) :
    ∀ (n : Nat) (f : z_F), z_stk S M C n mi f = some f' → z_vs S f.2.2.1 → z_vL S f.2.1 → z_vw S f.2.2.2 → ∀ (ls : Array Slot) (H : Heap) (locs : List Loc), z_hl ad ls (M mi).2.2.1 f.2.1 → va_P D cl (z_ws S fk ad cA f.2.2.2) H → va_S A s.heap H locs → W p l e R s m args below meth c H locs 0 0 Q (F0 m f.1 ls (f.2.2.1.map (z_v ad))) := by
  intro n
  induction n with
  | zero => intro f h; cases h
  | succ n ih =>
    intro f h hv1 hv2 hv3 ls H locs hl hP hS
    obtain ⟨pc, L, st, w⟩ := f
    have ok' := ok
    obtain ⟨⟨o1, o1n⟩, o2, o3, o4, ⟨o5, o5r⟩, ⟨o6a, o6b, o6c⟩, o7, o8, o9, o10⟩ := ok'
    dsimp only at hv1 hv2 hv3 hl hP
    rw [z_stk] at h
    cases hC : C mi pc with
    | none =>
      rw [hC] at h
      cases h
      exact kk ls H locs hl hP hS
    | some I =>
      rw [hC] at h
      dsimp only at h
      have hchk := z_chk_mono (o10 mi pc I hmi hC) hRf hRl
      cases hst0 : z_step S M I pc L st w with
      | none => rw [hst0] at h; cases h
      | some z =>
        rw [hst0] at h
        rcases z with f1 | rv | ⟨mj, as, rest⟩
        · dsimp only at h
          obtain ⟨pc', L', st', w1⟩ := f1
          obtain ⟨a1, a2, a3⟩ := z_pres o5r hst0 hv1 hv2 hv3
          exact z_next hx hb hown hts o1 o1n hNs hK o5 o6a o6b o6c o7 (o8 mi pc I hmi hC) hml hchk hst0 hl hv1 hP hS (fun ls' H' locs' b1 b2 b3 => ih (pc', L', st', w1) h a1 a2 a3 ls' H' locs' b1 b2 b3)
        · cases h
        · dsimp only at h
          obtain ⟨g1, g2⟩ := z_callv hst0 hv1
          cases hrun : z_run S M C n mj (0, z_entry (M mj).2.2.1 as, [], w) with
          | none => rw [hrun] at h; cases h
          | some y =>
            obtain ⟨w1, r1⟩ := y
            rw [hrun] at h
            dsimp only at h
            obtain ⟨b1, b2⟩ := z_keep o5r n mj _ w1 r1 hrun (fun _ hx => by cases hx) (z_vL.entry g1) hv3
            exact z_inv hx hb hown hts o1 o1n hNs hK o2 o3 o4 hv1 o9 hml hl.1 hchk hst0 hP hS (fun hj ha => z_met (z_wr ok n) ok hj hrun ha g1 hv3) (fun H' locs' a2 a3 => ih (pc + 3, L, r1.toList ++ rest, w1) h (fun v hv => by
              rcases List.mem_append.mp hv with hv | hv
              · exact b2 v hv
              · exact g2 v hv) hv2 b1 ls H' locs' hl a2 a3)
end ZK
/-! what a throw needs of the tables and of the statics -/
def t_St (C n d : String) (n0 : Nat) (U : State) (H : Heap) : Prop := ∃ (c : ClassId) (k : Class) (i : Nat) (f : Field) (a : Nat) (cell : Cell) (v : Value), U.vm.findClass C = some c ∧ U.fieldFound? C n d = some (c, k, i, f) ∧ f.isStatic = true ∧ k.statics = some a ∧ H[a]? = some cell ∧ cell.vm.isStatics = true ∧ cell.cls = c ∧ f.slot < cell.slots.size ∧ k.staticTypes[f.slot]? = some f.type ∧ cell.slots[f.slot]? = some v ∧ v.isRef = true ∧ a < n0
theorem t_St.of {args : Array Value} {s : State} {C n d : String} (h1 : (Jvm.Cond.laysStatic C n d).before args s = true) (h2 : (Jvm.Cond.isRef (.static C n d)).before args s = true) : t_St C n d s.heap.size s s.heap := by
  obtain ⟨c, k, i, f, a, cell, e1, e2, e3, e4, e5, e6, e7, e8, e9⟩ := Cond.laysStatic_spec h1
  cases hv : (Term.static C n d).eval args s none [] s with
  | none => simp [Cond.before, Cond.holds, Cond.value, hv] at h2
  | some v =>
    obtain ⟨-, a', cell', q1, q2, -, q3⟩ := Term.static_spec e2 hv
    cases e4.symm.trans q1
    cases e5.symm.trans q2
    refine ⟨c, k, i, f, a, cell, v, e1, e2, e3, e4, e5, e6, e7, e8, e9, q3, ?_, (Array.getElem?_eq_some_iff.mp e5).1⟩
    simp only [Cond.before, Cond.holds, Cond.value, hv] at h2
    cases v <;> simp_all [Value.isRef]
theorem t_St.moved {C n d : String} {n0 : Nat} {u U : State} {H H1 : Heap} (hvm : u.vm.Alike U.vm) (hk : ∀ a : Nat, a < n0 → H1[a]? = H[a]?) (h : t_St C n d n0 u H) : t_St C n d n0 U H1 := by
  obtain ⟨c, k, i, f, a, cell, v, e1, e2, e3, e4, e5, e6, e7, e8, e9, e10, e11, e12⟩ := h
  obtain ⟨k', hi', he⟩ := State.fieldFound?_setVm hvm e2
  exact ⟨c, k', i, f, a, cell, v, by rw [hvm.findClass]; exact e1, hi', e3, by rw [he]; exact e4, by rw [hk a e12]; exact e5, e6, e7, e8, by rw [he]; exact e9, e10, e11, e12⟩
theorem t_St.lays {C n d : String} {n0 : Nat} {s : State} {args : Array Value} (h : t_St C n d n0 s s.heap) : (Jvm.Cond.laysStatic C n d).before args s = true := by
  obtain ⟨c, k, i, f, a, cell, v, e1, e2, e3, e4, e5, e6, e7, e8, e9, -⟩ := h
  show (Jvm.Cond.laysStatic C n d).holds args s none s [] = true
  exact Cond.laysStatic_of e1 e2 e3 e4 e5 e6 e7 e8 e9
theorem t_St.ref {C n d : String} {n0 : Nat} {s : State} {args : Array Value} (h : t_St C n d n0 s s.heap) : (Jvm.Cond.isRef (.static C n d)).before args s = true := by
  obtain ⟨c, k, i, f, a, cell, v, e1, e2, e3, e4, e5, e6, e7, e8, e9, e10, e11, e12⟩ := h
  have he : (Term.static C n d).eval args s none [] s = some v := by
    simp [Term.eval, State.fieldNamed?, e2, e3, e4, e5, e6, e10]
  simp only [Cond.before, Cond.holds, Cond.value, he]
  cases v <;> simp_all [Value.isRef]
def z_xw : Jvm.Cond → Bool
  | .declares .. => true
  | .castable .. => true
  | _ => false
def zXs : List Jvm.Cond := lw_tbl.filter z_xw
theorem z_xw_mv {w : Jvm.Cond} (h : z_xw w = true) {s U : State} (hW : s.WarmedH U.vm) (hZ : va_Nw w s) : va_Nw w U := by
  cases w <;> first | exact va_Nw.warmD hW hZ | exact va_Nw.warmC hW hZ | (simp [z_xw] at h)
theorem z_xw_on {w : Jvm.Cond} (h : z_xw w = true) : w.onTables = true := by
  cases w <;> first | rfl | (simp [z_xw] at h)
def t_X (n0 : Nat) (U : State) (H : Heap) : Prop :=
  (t_St "java/lang/Throwable" "UNASSIGNED_STACK" "[Ljava/lang/StackTraceElement;" n0 U H ∧ t_St "java/lang/Throwable" "SUPPRESSED_SENTINEL" "Ljava/util/List;" n0 U H) ∧ (∀ w ∈ zXs, va_Nw w U) ∧
  ((∃ a, vk_R "PrintHouse" 181 "the house is down" a U) ∧ (∃ a, vk_R "PrintHouse" 147 "no such job, or nothing such of it" a U) ∧ (∃ a, vk_R "PrintHouse" 159 "no such pixel" a U)) ∧ va_Nc "java/lang/IndexOutOfBoundsException" "java/lang/IllegalStateException" U
theorem t_X.moved {n0 : Nat} {s U : State} {H H1 : Heap} (hW : s.WarmedH U.vm) (hk : ∀ a : Nat, a < n0 → H1[a]? = H[a]?) (h : t_X n0 s H) : t_X n0 U H1 := by
  obtain ⟨⟨h1, h2⟩, h3, ⟨⟨a1, h4⟩, ⟨a2, h5⟩, ⟨a3, h6⟩⟩, c, t, h7, h8, h9⟩ := h
  refine ⟨⟨h1.moved hW.alike hk, h2.moved hW.alike hk⟩, fun w hw => z_xw_mv (List.mem_filter.mp hw).2 hW (h3 w hw), ⟨⟨a1, vk_R.warm hW h4⟩, ⟨a2, vk_R.warm hW h5⟩, ⟨a3, vk_R.warm hW h6⟩⟩, c, t, by rw [hW.alike.findClass]; exact h7, by rw [hW.alike.findClass]; exact h8, by rw [hW.alike.assignable]; exact h9⟩
theorem t_X.call {n0 : Nat} {U : State} {g : JFrame} {mk : MethodId} {a : Array Value} (h : t_X n0 U U.heap) : t_X n0 (U.calling g mk a) (U.calling g mk a).heap := by
  obtain ⟨⟨h1, h2⟩, h3, ⟨⟨a1, h4⟩, ⟨a2, h5⟩, ⟨a3, h6⟩⟩, c, t, h7, h8, h9⟩ := h
  exact ⟨⟨t_St.moved (u := U) (U := U.calling g mk a) (H1 := (U.calling g mk a).heap) (Vm.Alike.refl U.vm) (fun _ _ => rfl) h1, t_St.moved (u := U) (U := U.calling g mk a) (H1 := (U.calling g mk a).heap) (Vm.Alike.refl U.vm) (fun _ _ => rfl) h2⟩, fun w hw => va_Nw.same (u := U) (U := U.calling g mk a) (z_xw_on (List.mem_filter.mp hw).2) rfl (h3 w hw), ⟨⟨a1, vk_R.same (u := U) rfl h4⟩, ⟨a2, vk_R.same (u := U) rfl h5⟩, ⟨a3, vk_R.same (u := U) rfl h6⟩⟩, c, t, h7, h8, h9⟩
/-- all words of a throw -/
theorem t_own {n0 : Nat} {s : State} {args : Array Value} {L : List Jvm.Cond} (hts : ∀ w ∈ zTs, w.before args s = true) (hX : t_X n0 s s.heap)
    (hL : L.all (fun w => (lw_tbl.contains w && (goodWord w || z_xw w)) || decide (w = .laysStatic "java/lang/Throwable" "UNASSIGNED_STACK" "[Ljava/lang/StackTraceElement;") || decide (w = .laysStatic "java/lang/Throwable" "SUPPRESSED_SENTINEL" "Ljava/util/List;") || decide (w = .isRef (.static "java/lang/Throwable" "UNASSIGNED_STACK" "[Ljava/lang/StackTraceElement;")) || decide (w = .isRef (.static "java/lang/Throwable" "SUPPRESSED_SENTINEL" "Ljava/util/List;"))) = true) : ∀ w ∈ L, w.before args s = true := by
  intro w hw
  have h := List.all_eq_true.mp hL w hw
  simp only [Bool.or_eq_true, Bool.and_eq_true, decide_eq_true_eq, List.contains_iff_mem] at h
  rcases h with (((⟨h1, h2⟩ | h) | h) | h) | h
  · rcases h2 with h2 | h2
    · exact hts w (zTs_in w h1 h2)
    · exact va_Nw.use (z_xw_on h2) (hX.2.1 w (List.mem_filter.mpr ⟨h1, h2⟩))
  · rw [h]; exact hX.1.1.lays
  · rw [h]; exact hX.1.2.lays
  · rw [h]; exact hX.1.1.ref
  · rw [h]; exact hX.1.2.ref
