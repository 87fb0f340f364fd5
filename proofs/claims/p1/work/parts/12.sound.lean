/-! what is checked of an instruction, a class, a method -/
def z_cf (cl : List vw_C) (fk : Nat → List Nat) (Ws : List Jvm.Cond) (hst own : String) (i a b t q : Nat) : Bool :=
  match cl[a]? with
  | some (C, T, N) => decide (b < N) && decide ((T b).1 = C) && decide ((fk a).getD b 0 = t) &&
     (if q % 2 = 0 then decide (Ws[q / 2]? = some (.fieldLink own i C (T b).2.1 (T b).2.2.1)) else decide (Ws[q / 2]? = some (.fieldLinkNest own i C (T b).2.1 (T b).2.2.1 hst)))
  | none => false
def z_cp2 (cl : List vw_C) (a b t : Nat) : Bool :=
  match cl[a]? with
  | some (_, T, _) => decide ((T b).2.2.2 = false) && decide (parseFieldDescriptor (T b).2.2.1 = some (if t = 0 then .int else .boolean)) && decide (t < 2)
  | none => false
def z_cl (Ws : List Jvm.Cond) (hst own : String) (i q : Nat) (y : MethodName) : Bool :=
  if q % 2 = 0 then decide (Ws[q / 2]? = some (.methodLink own i y)) else decide (Ws[q / 2]? = some (.methodLinkNest own i y hst))
def z_cr (nM : Nat) (M : Nat → z_M) (fr lo a : Nat) : Bool :=
  decide (a < nM) && decide ((M a).2.2.2.2.2.2.1 + 1 ≤ fr) && decide (8 + ((M a).2.2.1 + 11) + (M a).2.2.2.2.2.2.2 ≤ lo)
def z_ca (Ws : List Jvm.Cond) (own : String) (i : Nat) (fr lo : Nat) : Bool :=
  Ws.contains (.methodLink own i arraycopyName) && Ws.contains (.native arraycopyName) && Ws.contains (.static arraycopyName) && Ws.contains (.initialized "java/lang/System") && decide (1 ≤ fr) && decide (8 + (nativeFrameWords "java/lang/System" "arraycopy" 5 + 11) ≤ lo)
def z_chk (cl : List vw_C) (fk : Nat → List Nat) (nM : Nat) (M : Nat → z_M) (Ws : List Jvm.Cond) (jn hst own : String) (cc : ByteArray) (rt : Option FieldType) (fr lo : Nat) (pc : Nat) (I : z_I) : Bool :=
  decide (decode cc pc = .ok (I.1, I.2.1)) &&
  match I with
  | (ins, len, a, b, t, q, c, d) => match ins with
    | .iconst n => decide (len = 1) && decide (Int32.ofInt n = c)
    | .bipush n => decide (len = 2) && decide ((Int8.ofInt n).toInt32 = c)
    | .sipush n => decide (len = 3) && decide ((Int16.ofInt n).toInt32 = c)
    | .lconst n => decide (len = 1) && decide (Int64.ofNat (n : Nat) = d)
    | .ldc2_w i => decide (len = 3) && decide (Ws[q]? = some (.constantLong own i d))
    | .iload _ => decide (len = 2)
    | .lload _ => decide (len = 2)
    | .aload _ => decide (len = 2)
    | .istore _ => decide (len = 2)
    | .lstore _ => decide (len = 2)
    | .astore _ => decide (len = 2)
    | .iinc _ n => decide (len = 3) && decide (Int32.ofInt n = c)
    | .ifCond _ off => decide (len = 3) && decide ((pc : Int) + off = (a : Int))
    | .if_icmp _ off => decide (len = 3) && decide ((pc : Int) + off = (a : Int))
    | .goto off => decide (len = 3) && decide ((pc : Int) + off = (a : Int))
    | .ifnull off => decide (len = 3) && decide ((pc : Int) + off = (a : Int))
    | .ifnonnull off => decide (len = 3) && decide ((pc : Int) + off = (a : Int))
    | .tableswitch dflt _ _ offs => decide (0 ≤ (pc : Int) + dflt) && offs.toList.all (fun off => decide (0 ≤ (pc : Int) + off))
    | .lookupswitch dflt ps => decide (0 ≤ (pc : Int) + dflt) && ps.toList.all (fun x => decide (0 ≤ (pc : Int) + x.2)) && (ps.toList.zip (ps.toList.drop 1)).all (fun (a, next) => a.1 < next.1)
    | .getfield i => decide (len = 3) && z_cf cl fk Ws hst own i a b t q
    | .putfield i => decide (len = 3) && z_cf cl fk Ws hst own i a b t q && z_cp2 cl a b t
    | .aastore => decide (len = 1) && decide ((cl[a]?).map (fun x => x.1) = some jn)
    | .invokevirtual i => decide (len = 3) && z_cl Ws hst own i q (M a).1 && z_cr nM M fr lo a && decide ((M a).2.2.2.2.2.1 ≠ 0)
    | .invokestatic i => decide (len = 3) && match t with
      | 0 => z_cl Ws hst own i q (M a).1 && z_cr nM M fr lo a && decide ((M a).2.2.2.2.2.1 = 0)
      | _ => z_ca Ws own i fr lo
    | .ireturn => decide (len = 1) && decide (rt = some (if t = 0 then .int else .boolean))
    | .lreturn => decide (len = 1) && decide (rt = some .long)
    | .areturn => decide (len = 1) && (match rt with
      | some (.object _) => true
      | _ => false)
    | .return_ => decide (len = 1) && decide (rt = none)
    | _ => decide (len = 1)
def z_nest : Jvm.Cond → Bool
  | .fieldLinkNest .. => true
  | .methodLinkNest .. => true
  | _ => false
def z_CL (cl : List vw_C) (fk : Nat → List Nat) (Ts : List Jvm.Cond) : Prop := ∀ (ci : Nat) (C : String) (T : u_T) (N : Nat), cl[ci]? = some (C, T, N) →
  (∀ w ∈ u_ws C T N, w ∈ Ts) ∧ (fk ci).length = N ∧ (∃ ty0 : Nat → FieldType, ∀ k, k < N → parseFieldDescriptor (T k).2.2.1 = some (ty0 k)) ∧ (∀ a, a < N → ∀ b, b < N → a ≠ b → (T a).2.1 ≠ (T b).2.1)
def z_MO (cl : List vw_C) (Ts : List Jvm.Cond) (mt : z_M) : Prop :=
  plainName mt.1.cls = true ∧ (mt.1.cls ≠ "java/lang/invoke/MethodHandle" ∧ mt.1.cls ≠ "java/lang/invoke/VarHandle") ∧ Jvm.Cond.code mt.1 mt.2.1 mt.2.2.1 mt.2.2.2.1 ∈ Ts ∧ Jvm.Cond.initialized mt.1.cls ∈ Ts ∧
  (∀ sig, parseMethodDescriptor mt.1.desc = some sig → mt.2.2.2.2.1 = sig.parameters.length + (if mt.2.2.2.2.2.1 = 0 then 0 else 1)) ∧
  (mt.2.2.2.2.2.1 = 0 → Jvm.Cond.static mt.1 ∈ Ts) ∧
  (mt.2.2.2.2.2.1 ≠ 0 → Jvm.Cond.instanceMethod mt.1 ∈ Ts ∧ Jvm.Cond.selects mt.1.cls mt.1 mt.1 ∈ Ts ∧ ∃ (ci : Nat) (T : u_T) (N : Nat), mt.2.2.2.2.2.1 = ci + 4 ∧ cl[ci]? = some (mt.1.cls, T, N))
theorem z_lk_pos {pc : Nat} {d x : Int} : ∀ l : List (Int × Int), 0 ≤ (pc : Int) + d → (∀ q ∈ l, 0 ≤ (pc : Int) + q.2) → 0 ≤ (pc : Int) + Op.lookupswitch.offset l d x
  | [], h, _ => by rw [Op.lookupswitch.offset_nil]; exact h
  | (a, o) :: r, h, hl => by
    rw [Op.lookupswitch.offset_cons]
    split
    · exact hl (a, o) List.mem_cons_self
    · exact z_lk_pos r h (fun q hq => hl q (List.mem_cons_of_mem _ hq))
theorem z_tgt_eq {pc : Nat} {off : Int} (h : 0 ≤ (pc : Int) + off) : (pc : Int) + off = (z_tgt pc off : Int) := by
  unfold z_tgt
  omega
/-- an instruction that writes a cell -/
def z_isw (I : z_I) : Bool := match I with
  | (ins, _, _, _, t, _, _, _) => match ins with
    | .putfield _ => true
    | .iastore => true
    | .lastore => true
    | .aastore => true
    | .invokestatic _ => (match t with
      | 0 => false
      | _ => true)
    | _ => false
section ZW
variable {p : Program} {l : Launch} {e : Env} {R : Room} {s : State} {m : MethodId} {args : Array Value} {below : List Frame} {meth : Method} {c : Code} {H : Heap} {locs : List Loc} {Q : State → Prop}
theorem z_wcall {pc : Nat} {ls : Array Slot} {st0 rest : List Value} {Qa : State → Outcome → State → Prop} {free : Addr → Prop}
    (hr : va_Run p l e R s m args below meth c H locs 0 0 0 0 (F0 m pc ls st0) rest Qa free)
    (kk : ∀ (v : Option Value) (st₀ t : State) (H1 : Heap) (locs1 : List Loc), st₀.heap = H → Qa st₀ (.returned v) t → t.heap = H1 → (∀ x ∈ locs1, x ∈ locs ∨ free x.base) → W p l e R s m args below meth c H1 locs1 0 0 Q (F0 m (pc + 3) ls (v.toList ++ rest))) :
    W p l e R s m args below meth c H locs 0 0 Q (F0 m pc ls st0) := by
  intro T hT X
  obtain ⟨v, st₀, t, T', L, h0, X', hL, e1, e2, hq, st⟩ := hr T hT X
  obtain ⟨t2, a1, b1⟩ := kk v st₀ t T'.heap (locs ++ L) h0 hq e1.symm (fun x hx => by
    rcases List.mem_append.mp hx with h | h
    · exact Or.inl h
    · exact Or.inr (hL x h)) T' rfl X'
  exact ⟨t2, st t2 a1, b1⟩
variable {S : z_S} {fk : Nat → List Nat} {ad : z_N → Nat} {cA : Nat → ClassId} {D : va_G} {cl : List vw_C} {tys : List (ClassId × FieldType)} {A : Nat → Prop} {H0 : Heap} {Ts Ws Ns : List Jvm.Cond} {jn hst own : String} {cc : ByteArray} {rt : Option FieldType} {nM : Nat} {M : Nat → z_M}
set_option maxHeartbeats 4000000 in
set_option maxRecDepth 100000 in
theorem z_next {cells slots : Nat} (hx : p.tables.exec = Jvm.exec) (hb : c.code = cc) (hown : s.vm.findClass own = some m.cls) (hts : ∀ w ∈ Ts, w.before args s = true) (hWs : ∀ w ∈ Ws, goodWord w = true → w ∈ Ts) (hWN : ∀ w ∈ Ws, z_nest w = true → w ∈ Ns) (hNs : ∀ w ∈ Ns, va_Nw w s) (hK : va_K D cl tys s)
    (hnd : S.2.2.2.2.Nodup) (hty1 : ∀ o, S.1 o = 1 → tys[0]? = some (cA 0, .int)) (hty2 : ∀ o, S.1 o = 2 → tys[1]? = some (cA 1, .long)) (hty3 : ∀ o, S.1 o = 3 → tys[2]? = some (cA 2, .object jn))
    (hCL : z_CL cl fk Ts) {nL pc pc' : Nat} {I : z_I} (hD : z_isw I = true → ∀ w, va_D A (z_ws S fk ad cA w)) {L L' : z_L} {st st' : List z_V} {w w' : z_W} {ls : Array Slot} (hml : c.maxLocals = nL)
    (hchk : z_chk cl fk nM M Ws jn hst own cc rt R.frames R.locals pc I = true) (hstep : z_step S M I pc L st w = some (.inl (pc', L', st', w')))
    (hl : z_hl ad ls nL L) (hv1 : z_vs S st) (hP : va_P D cl (z_ws S fk ad cA w) H) (hS : va_S A H0 H locs)
    (kk : ∀ (ls' : Array Slot) (H' : Heap) (locs' : List Loc), z_hl ad ls' nL L' → va_P D cl (z_ws S fk ad cA w') H' → va_S A H0 H' locs' → W p l e R s m args below meth c H' locs' cells slots Q (F0 m pc' ls' (st'.map (z_v ad)))) :
    W p l e R s m args below meth c H locs cells slots Q (F0 m pc ls (st.map (z_v ad))) := by
  obtain ⟨ins, len, a, b, t, q, c0, d⟩ := I
  unfold z_chk at hchk
  rw [Bool.and_eq_true, decide_eq_true_eq] at hchk
  obtain ⟨hd, hchk⟩ := hchk
  dsimp only at hd hchk
  cases ins
  case iconst n =>
    simp only [z_step] at hstep
    cases hstep
    simp only [Bool.and_eq_true, decide_eq_true_eq] at hchk
    obtain ⟨rfl, h2⟩ := hchk
    exact lv_iconst hx hb hd h2 (kk ls H locs hl hP hS)
  case bipush n =>
    simp only [z_step] at hstep
    cases hstep
    simp only [Bool.and_eq_true, decide_eq_true_eq] at hchk
    obtain ⟨rfl, h2⟩ := hchk
    exact lv_bipush hx hb hd h2 (kk ls H locs hl hP hS)
  case sipush n =>
    simp only [z_step] at hstep
    cases hstep
    simp only [Bool.and_eq_true, decide_eq_true_eq] at hchk
    obtain ⟨rfl, h2⟩ := hchk
    exact lv_sipush hx hb hd h2 (kk ls H locs hl hP hS)
  case lconst n =>
    simp only [z_step] at hstep
    cases hstep
    simp only [Bool.and_eq_true, decide_eq_true_eq] at hchk
    obtain ⟨rfl, h2⟩ := hchk
    exact lv_lconst hx hb hd h2 (kk ls H locs hl hP hS)
  case ldc2_w i =>
    simp only [z_step] at hstep
    cases hstep
    simp only [Bool.and_eq_true, decide_eq_true_eq] at hchk
    obtain ⟨rfl, h2⟩ := hchk
    exact lv_ldc2 hx hb hown (hts _ (hWs _ (List.mem_of_getElem? h2) rfl)) hd (kk ls H locs hl hP hS)
  case aconst_null =>
    simp only [z_step] at hstep
    cases hstep
    simp only [decide_eq_true_eq] at hchk
    subst hchk
    exact lv_null hx hb hd (kk ls H locs hl hP hS)
  case iload_n k =>
    simp only [z_step] at hstep
    split at hstep
    · rename_i x hv
      cases hstep
      simp only [decide_eq_true_eq] at hchk
      subst hchk
      exact lv_iload_n hx hb hd rfl (z_ld_at hl hv) (kk ls H locs hl hP hS)
    · cases hstep
  case iload k =>
    simp only [z_step] at hstep
    split at hstep
    · rename_i x hv
      cases hstep
      simp only [decide_eq_true_eq] at hchk
      subst hchk
      exact lv_iload hx hb hd (z_ld_at hl hv) (kk ls H locs hl hP hS)
    · cases hstep
  case lload_n k =>
    simp only [z_step] at hstep
    split at hstep
    · rename_i x hv
      cases hstep
      simp only [decide_eq_true_eq] at hchk
      subst hchk
      exact lv_lload_n hx hb hd rfl (z_ld_at hl hv) (kk ls H locs hl hP hS)
    · cases hstep
  case lload k =>
    simp only [z_step] at hstep
    split at hstep
    · rename_i x hv
      cases hstep
      simp only [decide_eq_true_eq] at hchk
      subst hchk
      exact lv_lload hx hb hd (z_ld_at hl hv) (kk ls H locs hl hP hS)
    · cases hstep
  case aload_n k =>
    simp only [z_step] at hstep
    split at hstep
    · rename_i x hv
      cases hstep
      simp only [decide_eq_true_eq] at hchk
      subst hchk
      cases x with
      | none => exact lv_aload_nN hx hb hd rfl (z_ld_at hl hv) (kk ls H locs hl hP hS)
      | some x => exact lv_aload_n hx hb hd rfl (z_ld_at hl hv) (kk ls H locs hl hP hS)
    · cases hstep
  case aload k =>
    simp only [z_step] at hstep
    split at hstep
    · rename_i x hv
      cases hstep
      simp only [decide_eq_true_eq] at hchk
      subst hchk
      cases x with
      | none => exact lv_aloadN hx hb hd (z_ld_at hl hv) (kk ls H locs hl hP hS)
      | some x => exact lv_aload hx hb hd (z_ld_at hl hv) (kk ls H locs hl hP hS)
    · cases hstep
  case istore_n k =>
    simp only [z_step] at hstep
    split at hstep
    · split at hstep
      · rename_i hk
        cases hstep
        simp only [decide_eq_true_eq] at hchk
        subst hchk
        exact lv_istore_n hx hb hd rfl hl.has (hl.2.2.1 ▸ hk) rfl (fun ls' h' => kk ls' H locs (hl.st1 h') hP hS)
      · cases hstep
    · cases hstep
  case istore k =>
    simp only [z_step] at hstep
    split at hstep
    · split at hstep
      · rename_i hk
        cases hstep
        simp only [decide_eq_true_eq] at hchk
        subst hchk
        exact lv_istore hx hb hd hl.has (hl.2.2.1 ▸ hk) rfl (fun ls' h' => kk ls' H locs (hl.st1 h') hP hS)
      · cases hstep
    · cases hstep
  case lstore_n k =>
    simp only [z_step] at hstep
    split at hstep
    · split at hstep
      · rename_i hk
        cases hstep
        simp only [decide_eq_true_eq] at hchk
        subst hchk
        exact lv_lstore_n hx hb hd rfl hl.has (hl.2.2.1 ▸ hk) rfl (fun ls' h' => kk ls' H locs (hl.st2 h') hP hS)
      · cases hstep
    · cases hstep
  case lstore k =>
    simp only [z_step] at hstep
    split at hstep
    · split at hstep
      · rename_i hk
        cases hstep
        simp only [decide_eq_true_eq] at hchk
        subst hchk
        exact lv_lstore hx hb hd hl.has (hl.2.2.1 ▸ hk) rfl (fun ls' h' => kk ls' H locs (hl.st2 h') hP hS)
      · cases hstep
    · cases hstep
  case astore_n k =>
    simp only [z_step] at hstep
    split at hstep
    · rename_i x r
      split at hstep
      · rename_i hk
        cases hstep
        simp only [decide_eq_true_eq] at hchk
        subst hchk
        cases x with
        | none => exact lv_astore_nN hx hb hd rfl hl.has (hl.2.2.1 ▸ hk) rfl (fun ls' h' => kk ls' H locs (hl.st1 h') hP hS)
        | some x => exact lv_astore_n hx hb hd rfl hl.has (hl.2.2.1 ▸ hk) rfl (fun ls' h' => kk ls' H locs (hl.st1 h') hP hS)
      · cases hstep
    · cases hstep
  case astore k =>
    simp only [z_step] at hstep
    split at hstep
    · rename_i x r
      split at hstep
      · rename_i hk
        cases hstep
        simp only [decide_eq_true_eq] at hchk
        subst hchk
        cases x with
        | none => exact lv_astoreN hx hb hd hl.has (hl.2.2.1 ▸ hk) rfl (fun ls' h' => kk ls' H locs (hl.st1 h') hP hS)
        | some x => exact lv_astore hx hb hd hl.has (hl.2.2.1 ▸ hk) rfl (fun ls' h' => kk ls' H locs (hl.st1 h') hP hS)
      · cases hstep
    · cases hstep
  case iinc k n =>
    simp only [z_step] at hstep
    split at hstep
    · rename_i x hv
      split at hstep
      · rename_i hk
        cases hstep
        simp only [Bool.and_eq_true, decide_eq_true_eq] at hchk
        obtain ⟨rfl, h2⟩ := hchk
        obtain ⟨j, hj⟩ := z_ld_as (ad := ad) hv
        exact lv_iinc hx hb hd hl.has hj (by rw [h2]) (hl.2.2.1 ▸ hk) rfl (fun ls' h' => kk ls' H locs (hl.st1 h') hP hS)
      · cases hstep
    · cases hstep
  case iadd =>
    simp only [z_step] at hstep
    split at hstep
    · cases hstep
      simp only [decide_eq_true_eq] at hchk
      subst hchk
      exact lv_iadd hx hb hd (kk ls H locs hl hP hS)
    · cases hstep
  case isub =>
    simp only [z_step] at hstep
    split at hstep
    · cases hstep
      simp only [decide_eq_true_eq] at hchk
      subst hchk
      exact lv_isub hx hb hd (kk ls H locs hl hP hS)
    · cases hstep
  case imul =>
    simp only [z_step] at hstep
    split at hstep
    · cases hstep
      simp only [decide_eq_true_eq] at hchk
      subst hchk
      exact lv_imul hx hb hd (kk ls H locs hl hP hS)
    · cases hstep
  case iand =>
    simp only [z_step] at hstep
    split at hstep
    · cases hstep
      simp only [decide_eq_true_eq] at hchk
      subst hchk
      exact lv_iand hx hb hd (kk ls H locs hl hP hS)
    · cases hstep
  case ior =>
    simp only [z_step] at hstep
    split at hstep
    · cases hstep
      simp only [decide_eq_true_eq] at hchk
      subst hchk
      exact lv_ior hx hb hd (kk ls H locs hl hP hS)
    · cases hstep
  case ishl =>
    simp only [z_step] at hstep
    split at hstep
    · cases hstep
      simp only [decide_eq_true_eq] at hchk
      subst hchk
      exact lv_ishl hx hb hd (kk ls H locs hl hP hS)
    · cases hstep
  case ishr =>
    simp only [z_step] at hstep
    split at hstep
    · cases hstep
      simp only [decide_eq_true_eq] at hchk
      subst hchk
      exact lv_ishr hx hb hd (kk ls H locs hl hP hS)
    · cases hstep
  case land =>
    simp only [z_step] at hstep
    split at hstep
    · cases hstep
      simp only [decide_eq_true_eq] at hchk
      subst hchk
      exact lv_land hx hb hd (kk ls H locs hl hP hS)
    · cases hstep
  case lor =>
    simp only [z_step] at hstep
    split at hstep
    · cases hstep
      simp only [decide_eq_true_eq] at hchk
      subst hchk
      exact lv_lor hx hb hd (kk ls H locs hl hP hS)
    · cases hstep
  case lcmp =>
    simp only [z_step] at hstep
    split at hstep
    · cases hstep
      simp only [decide_eq_true_eq] at hchk
      subst hchk
      exact W.lcmp hx hb hd (kk ls H locs hl hP hS)
    · cases hstep
  case lshl =>
    simp only [z_step] at hstep
    split at hstep
    · cases hstep
      simp only [decide_eq_true_eq] at hchk
      subst hchk
      exact lv_lshl hx hb hd rfl (kk ls H locs hl hP hS)
    · cases hstep
  case lshr =>
    simp only [z_step] at hstep
    split at hstep
    · cases hstep
      simp only [decide_eq_true_eq] at hchk
      subst hchk
      exact lv_lshr hx hb hd rfl (kk ls H locs hl hP hS)
    · cases hstep
  case i2l =>
    simp only [z_step] at hstep
    split at hstep
    · cases hstep
      simp only [decide_eq_true_eq] at hchk
      subst hchk
      exact lv_i2l hx hb hd rfl (kk ls H locs hl hP hS)
    · cases hstep
  case l2i =>
    simp only [z_step] at hstep
    split at hstep
    · cases hstep
      simp only [decide_eq_true_eq] at hchk
      subst hchk
      exact lv_l2i hx hb hd rfl (kk ls H locs hl hP hS)
    · cases hstep
  case idiv =>
    simp only [z_step] at hstep
    split at hstep
    · split at hstep
      · cases hstep
      · rename_i h0
        cases hstep
        simp only [decide_eq_true_eq] at hchk
        subst hchk
        exact lv_idiv hx hb hd h0 (kk ls H locs hl hP hS)
    · cases hstep
  case irem =>
    simp only [z_step] at hstep
    split at hstep
    · split at hstep
      · cases hstep
      · rename_i h0
        cases hstep
        simp only [decide_eq_true_eq] at hchk
        subst hchk
        exact lv_irem hx hb hd h0 (kk ls H locs hl hP hS)
    · cases hstep
  case dup =>
    simp only [z_step] at hstep
    simp only [decide_eq_true_eq] at hchk
    subst hchk
    split at hstep
    · cases hstep
      exact lv_dup hx hb hd rfl (kk ls H locs hl hP hS)
    · rename_i x r
      cases hstep
      cases x with
      | none => exact lv_dup hx hb hd rfl (kk ls H locs hl hP hS)
      | some x => exact lv_dup hx hb hd rfl (kk ls H locs hl hP hS)
    · cases hstep
  case dup2 =>
    simp only [z_step] at hstep
    simp only [decide_eq_true_eq] at hchk
    subst hchk
    split at hstep
    · rename_i x y r
      cases hstep
      cases y with
      | none => exact lv_dup2_11 hx hb hd rfl rfl (kk ls H locs hl hP hS)
      | some y => exact lv_dup2_11 hx hb hd rfl rfl (kk ls H locs hl hP hS)
    · cases hstep
  case ifCond cnd off =>
    simp only [z_step] at hstep
    simp only [Bool.and_eq_true, decide_eq_true_eq] at hchk
    obtain ⟨rfl, h2⟩ := hchk
    split at hstep
    · cases cnd
      all_goals (simp only at hstep; cases hstep)
      · exact lv_if_eq hx hb hd h2 (fun h => by rw [if_pos h] at kk; exact kk ls H locs hl hP hS) (fun h => by rw [if_neg h] at kk; exact kk ls H locs hl hP hS)
      · exact lv_if_ne hx hb hd h2 (fun h => by rw [if_neg h] at kk; exact kk ls H locs hl hP hS) (fun h => by rw [if_pos h] at kk; exact kk ls H locs hl hP hS)
      · exact lv_if_lt hx hb hd h2 (fun h => by rw [if_pos h] at kk; exact kk ls H locs hl hP hS) (fun h => by rw [if_neg h] at kk; exact kk ls H locs hl hP hS)
      · exact lv_if_ge hx hb hd h2 (fun h => by rw [if_pos h] at kk; exact kk ls H locs hl hP hS) (fun h => by rw [if_neg h] at kk; exact kk ls H locs hl hP hS)
      · exact lv_if_gt hx hb hd h2 (fun h => by rw [if_pos h] at kk; exact kk ls H locs hl hP hS) (fun h => by rw [if_neg h] at kk; exact kk ls H locs hl hP hS)
      · exact lv_if_le hx hb hd h2 (fun h => by rw [if_pos h] at kk; exact kk ls H locs hl hP hS) (fun h => by rw [if_neg h] at kk; exact kk ls H locs hl hP hS)
    · cases hstep
  case if_icmp cnd off =>
    simp only [z_step] at hstep
    simp only [Bool.and_eq_true, decide_eq_true_eq] at hchk
    obtain ⟨rfl, h2⟩ := hchk
    split at hstep
    · cases cnd
      all_goals (simp only at hstep; cases hstep)
      · exact lv_icmp_eq hx hb hd h2 (fun h => by rw [if_pos h] at kk; exact kk ls H locs hl hP hS) (fun h => by rw [if_neg h] at kk; exact kk ls H locs hl hP hS)
      · exact lv_icmp_ne hx hb hd h2 (fun h => by rw [if_neg h] at kk; exact kk ls H locs hl hP hS) (fun h => by rw [if_pos h] at kk; exact kk ls H locs hl hP hS)
      · exact lv_icmp_lt hx hb hd h2 (fun h => by rw [if_pos h] at kk; exact kk ls H locs hl hP hS) (fun h => by rw [if_neg h] at kk; exact kk ls H locs hl hP hS)
      · exact lv_icmp_ge hx hb hd h2 (fun h => by rw [if_pos h] at kk; exact kk ls H locs hl hP hS) (fun h => by rw [if_neg h] at kk; exact kk ls H locs hl hP hS)
      · exact lv_icmp_gt hx hb hd h2 (fun h => by rw [if_pos h] at kk; exact kk ls H locs hl hP hS) (fun h => by rw [if_neg h] at kk; exact kk ls H locs hl hP hS)
      · exact lv_icmp_le hx hb hd h2 (fun h => by rw [if_pos h] at kk; exact kk ls H locs hl hP hS) (fun h => by rw [if_neg h] at kk; exact kk ls H locs hl hP hS)
    · cases hstep
  case goto off =>
    simp only [z_step] at hstep
    cases hstep
    simp only [Bool.and_eq_true, decide_eq_true_eq] at hchk
    obtain ⟨rfl, h2⟩ := hchk
    exact lv_goto hx hb hd h2 (kk ls H locs hl hP hS)
  case ifnull off =>
    simp only [z_step] at hstep
    simp only [Bool.and_eq_true, decide_eq_true_eq] at hchk
    obtain ⟨rfl, h2⟩ := hchk
    split at hstep
    · cases hstep
      exact lv_ifnullN hx hb hd h2 (kk ls H locs hl hP hS)
    · cases hstep
      exact lv_ifnull hx hb hd (kk ls H locs hl hP hS)
    · cases hstep
  case ifnonnull off =>
    simp only [z_step] at hstep
    simp only [Bool.and_eq_true, decide_eq_true_eq] at hchk
    obtain ⟨rfl, h2⟩ := hchk
    split at hstep
    · cases hstep
      exact lv_ifnonnullN hx hb hd (kk ls H locs hl hP hS)
    · cases hstep
      exact lv_ifnonnull hx hb hd h2 (kk ls H locs hl hP hS)
    · cases hstep
  case tableswitch dflt lo hi offs =>
    simp only [z_step] at hstep
    simp only [Bool.and_eq_true, decide_eq_true_eq, List.all_eq_true] at hchk
    obtain ⟨h1, h2⟩ := hchk
    split at hstep
    · split at hstep
      · rename_i h3
        cases hstep
        exact lv_tableOut hx hb hd h3 (z_tgt_eq h1) (kk ls H locs hl hP hS)
      · rename_i h3
        split at hstep
        · rename_i off ho
          cases hstep
          exact lv_tableIn hx hb hd (fun h => h3 (Or.inl h)) (fun h => h3 (Or.inr h)) ho (z_tgt_eq (h2 off (by simpa using Array.mem_of_getElem? ho))) (kk ls H locs hl hP hS)
        · cases hstep
    · cases hstep
  case lookupswitch dflt ps =>
    simp only [z_step] at hstep
    simp only [Bool.and_eq_true, decide_eq_true_eq] at hchk
    obtain ⟨⟨h1, h2⟩, h3⟩ := hchk
    split at hstep
    · cases hstep
      exact lv_lookup hx hb hd h3 rfl (z_tgt_eq (z_lk_pos _ h1 (fun x hx => by simpa using List.all_eq_true.mp h2 x hx))) (kk ls H locs hl hP hS)
    · cases hstep
  case getfield i =>
    simp only [z_step] at hstep
    rw [Bool.and_eq_true, decide_eq_true_eq] at hchk
    obtain ⟨rfl, h2⟩ := hchk
    unfold z_cf at h2
    split at h2
    · rename_i C T N hc
      simp only [Bool.and_eq_true, decide_eq_true_eq] at h2
      obtain ⟨⟨⟨hb1, hb2⟩, hb3⟩, hb4⟩ := h2
      obtain ⟨g1, g2, -, -⟩ := hCL a C T N hc
      split at hstep
      · rename_i g o r
        split at hstep
        · rename_i ho
          obtain ⟨jj, hj⟩ := List.getElem?_of_mem (show (g, o) ∈ S.2.2.2.2 from hv1.h)
          have he := z_ws_at (fk := fk) (ad := ad) (cA := cA) (w := w) hj
          rw [z_cell_o (o := (g, o)) ho] at he
          have hv := z_fs_at (S := S) (ad := ad) (w := w) (o := (g, o)) (ks := fk a) (b := b) (by omega)
          have hgo : ∀ v : Value, z_fv S ad w (fk a) (g, o) b = v → W p l e R s m args below meth c H locs cells slots Q (F0 m (pc + 3) ls (v :: r.map (z_v ad))) → W p l e R s m args below meth c H locs cells slots Q (F0 m pc ls (Value.ref (ad (g, o)) :: r.map (z_v ad))) := by
            intro v hv2 k2
            rw [hv2] at hv
            by_cases hq : q % 2 = 0
            · rw [if_pos hq, decide_eq_true_eq] at hb4
              exact va_get hx hb hts g1 hown hK hP jj he hc b hb1 (hts _ (hWs _ (List.mem_of_getElem? hb4) rfl)) (fun x h9 => by rw [hb2] at h9; exact h9) hv hd k2
            · rw [if_neg hq, decide_eq_true_eq] at hb4
              exact va_getN hx hb hts g1 hown hK hP jj he hc b hb1 (va_Nw.use rfl (hNs _ (hWN _ (List.mem_of_getElem? hb4) rfl))) (fun x h9 => by rw [hb2] at h9; exact h9) hv hd k2
          split at hstep
          · cases hstep
            exact hgo _ (by unfold z_fv; rw [if_pos hb3]; rfl) (kk ls H locs hl hP hS)
          · rename_i ht2
            cases hstep
            exact hgo _ (by unfold z_fv; rw [if_neg (by rw [hb3]; exact ht2)]; rfl) (kk ls H locs hl hP hS)
        · cases hstep
      · cases hstep
    · cases h2
  case putfield i =>
    simp only [z_step] at hstep
    rw [Bool.and_eq_true, Bool.and_eq_true, decide_eq_true_eq] at hchk
    obtain ⟨⟨rfl, h2⟩, h3⟩ := hchk
    unfold z_cf at h2
    unfold z_cp2 at h3
    split at h2
    · rename_i C T N hc
      rw [hc] at h3
      simp only [Bool.and_eq_true, decide_eq_true_eq] at h2 h3
      obtain ⟨⟨⟨hb1, hb2⟩, hb3⟩, hb4⟩ := h2
      obtain ⟨⟨hf1, hf2⟩, hf3⟩ := h3
      obtain ⟨g1, g2, ⟨ty0, g3⟩, g4⟩ := hCL a C T N hc
      split at hstep
      · rename_i x g o r
        split at hstep
        · rename_i ho
          cases hstep
          obtain ⟨jj, hj⟩ := List.getElem?_of_mem (show (g, o) ∈ S.2.2.2.2 from hv1.t.h)
          have he := z_ws_at (fk := fk) (ad := ad) (cA := cA) (w := w) hj
          rw [z_cell_o (o := (g, o)) ho.1] at he
          have hbl : b < (fk a).length := by omega
          have hset := z_ws_set (fk := fk) (ad := ad) (cA := cA) (w := w) (w' := z_si w g o b x) hnd hj (z_si_o (o := (g, o)) ho.1 hbl (by rw [hb3]; omega)) (fun q hq => z_si_ne (o := (g, o)) hq)
          have hn : narrow (if t = 0 then .int else .boolean) (.int x) = .int x := by
            rcases ho.2 with h | h
            · rw [if_pos h]; rfl
            · by_cases h0 : t = 0
              · rw [if_pos h0]; rfl
              · rw [if_neg h0]
                rcases h with rfl | rfl <;> rfl
          have hfit : fits (if t = 0 then .int else .boolean) (.int x) = true := by
            rcases ho.2 with h | h
            · rw [if_pos h]; rfl
            · by_cases h0 : t = 0
              · rw [if_pos h0]; rfl
              · rw [if_neg h0]
                rcases h with rfl | rfl <;> rfl
          by_cases hq : q % 2 = 0
          · rw [if_pos hq, decide_eq_true_eq] at hb4
            exact va_put hx hb hts g1 ty0 g3 g4 hown hK hP (hD rfl w) hS jj he hc b hb1 (hts _ (hWs _ (List.mem_of_getElem? hb4) rfl)) (fun x h9 => by rw [hb2] at h9; exact h9) hf1 hf2 hn hfit (by simpa using hbl) hd (fun H1 locs1 k1 _ k3 => kk ls H1 locs1 hl (by rw [← hset]; exact k1) k3)
          · rw [if_neg hq, decide_eq_true_eq] at hb4
            exact va_putN hx hb hts g1 ty0 g3 g4 hown hK hP (hD rfl w) hS jj he hc b hb1 (va_Nw.use rfl (hNs _ (hWN _ (List.mem_of_getElem? hb4) rfl))) (fun x h9 => by rw [hb2] at h9; exact h9) hf1 hf2 hn hfit (by simpa using hbl) hd (fun H1 locs1 k1 _ k3 => kk ls H1 locs1 hl (by rw [← hset]; exact k1) k3)
        · cases hstep
      · cases hstep
    · cases h2
  case iaload =>
    simp only [z_step] at hstep
    simp only [decide_eq_true_eq] at hchk
    subst hchk
    split at hstep
    · rename_i i g o r
      split at hstep
      · rename_i ho
        cases hstep
        obtain ⟨jj, hj⟩ := List.getElem?_of_mem (show (g, o) ∈ S.2.2.2.2 from hv1.t.h)
        have he := z_ws_at (fk := fk) (ad := ad) (cA := cA) (w := w) hj
        rw [z_cell_1 (o := (g, o)) ho.1] at he
        exact va_iald hx hb hK hP jj 0 he (hty1 g ho.1) (z_in_vp ho.2) hd (kk ls H locs hl hP hS)
      · cases hstep
    · cases hstep
  case laload =>
    simp only [z_step] at hstep
    simp only [decide_eq_true_eq] at hchk
    subst hchk
    split at hstep
    · rename_i i g o r
      split at hstep
      · rename_i ho
        cases hstep
        obtain ⟨jj, hj⟩ := List.getElem?_of_mem (show (g, o) ∈ S.2.2.2.2 from hv1.t.h)
        have he := z_ws_at (fk := fk) (ad := ad) (cA := cA) (w := w) hj
        rw [z_cell_2 (o := (g, o)) ho.1] at he
        exact va_lald hx hb hK hP jj 1 he (hty2 g ho.1) (z_in_vp ho.2) hd (kk ls H locs hl hP hS)
      · cases hstep
    · cases hstep
  case aaload =>
    simp only [z_step] at hstep
    simp only [decide_eq_true_eq] at hchk
    subst hchk
    split at hstep
    · rename_i i g o r
      split at hstep
      · rename_i ho
        cases hstep
        obtain ⟨jj, hj⟩ := List.getElem?_of_mem (show (g, o) ∈ S.2.2.2.2 from hv1.t.h)
        have he := z_ws_at (fk := fk) (ad := ad) (cA := cA) (w := w) hj
        rw [z_cell_3 (o := (g, o)) ho.1] at he
        exact va_aldq hx hb hK hP jj 2 he (hty3 g ho.1) (z_in_vp ho.2) hd (kk ls H locs hl hP hS)
      · cases hstep
    · cases hstep
  case iastore =>
    simp only [z_step] at hstep
    simp only [decide_eq_true_eq] at hchk
    subst hchk
    split at hstep
    · rename_i x i g o r
      split at hstep
      · rename_i ho
        cases hstep
        obtain ⟨jj, hj⟩ := List.getElem?_of_mem (show (g, o) ∈ S.2.2.2.2 from hv1.t.t.h)
        have he := z_ws_at (fk := fk) (ad := ad) (cA := cA) (w := w) hj
        rw [z_cell_1 (o := (g, o)) ho.1] at he
        have hset := z_ws_set (fk := fk) (ad := ad) (cA := cA) (w := w) (w' := z_si w g o i.toNatClampNeg x) hnd hj (z_si_1 (o := (g, o)) ho.1) (fun q hq => z_si_ne (o := (g, o)) hq)
        exact va_iast hx hb hK hP (hD rfl w) hS jj 0 he (hty1 g ho.1) (z_in_vp ho.2) hd (fun H1 locs1 k1 _ k3 => kk ls H1 locs1 hl (by rw [← hset]; exact k1) k3)
      · cases hstep
    · cases hstep
  case lastore =>
    simp only [z_step] at hstep
    simp only [decide_eq_true_eq] at hchk
    subst hchk
    split at hstep
    · rename_i x i g o r
      split at hstep
      · rename_i ho
        cases hstep
        obtain ⟨jj, hj⟩ := List.getElem?_of_mem (show (g, o) ∈ S.2.2.2.2 from hv1.t.t.h)
        have he := z_ws_at (fk := fk) (ad := ad) (cA := cA) (w := w) hj
        rw [z_cell_2 (o := (g, o)) ho.1] at he
        have hset := z_ws_set (fk := fk) (ad := ad) (cA := cA) (w := w) (w' := z_sl w g o i.toNatClampNeg x) hnd hj (z_sl_2 (o := (g, o)) ho.1) (fun q hq => z_sl_ne (o := (g, o)) hq)
        exact va_last hx hb hK hP (hD rfl w) hS jj 1 he (hty2 g ho.1) (z_in_vp ho.2) hd (fun H1 locs1 k1 _ k3 => kk ls H1 locs1 hl (by rw [← hset]; exact k1) k3)
      · cases hstep
    · cases hstep
  case aastore =>
    simp only [z_step] at hstep
    simp only [Bool.and_eq_true, decide_eq_true_eq] at hchk
    obtain ⟨rfl, hjn⟩ := hchk
    split at hstep
    · rename_i g' v i g o r
      split at hstep
      · rename_i ho
        cases hstep
        obtain ⟨h1, h2, h3, h4⟩ := ho
        subst h3
        obtain ⟨jj, hj⟩ := List.getElem?_of_mem (show (g, o) ∈ S.2.2.2.2 from hv1.t.t.h)
        have he := z_ws_at (fk := fk) (ad := ad) (cA := cA) (w := w) hj
        rw [z_cell_3 (o := (g, o)) h1] at he
        obtain ⟨jv, hjv⟩ := List.getElem?_of_mem (show (S.2.2.2.1, v) ∈ S.2.2.2.2 from hv1.h)
        have hev := z_ws_at (fk := fk) (ad := ad) (cA := cA) (w := w) hjv
        rw [z_cell_o (o := (S.2.2.2.1, v)) h4] at hev
        cases hc : cl[a]? with
        | none => rw [hc] at hjn; cases hjn
        | some r9 =>
          rw [hc] at hjn
          have hjn2 : r9.1 = jn := by simpa using hjn
          have hset := z_ws_set (fk := fk) (ad := ad) (cA := cA) (w := w) (w' := z_sr w g o i.toNatClampNeg v) hnd hj (z_sr_3 (o := (g, o)) h1) (fun q hq => z_sr_ne (o := (g, o)) hq)
          exact va_astq hx hb hK hP (hD rfl w) hS jj 2 jv a he (by rw [hjn2]; exact hty3 g h1) hev hc (z_in_vp h2) hd (fun H1 locs1 k1 _ k3 => kk ls H1 locs1 hl (by rw [← hset]; exact k1) k3)
      · cases hstep
    · cases hstep
  case arraylength =>
    simp only [z_step] at hstep
    simp only [decide_eq_true_eq] at hchk
    subst hchk
    split at hstep
    · rename_i g o r
      split at hstep
      · rename_i ho
        cases hstep
        obtain ⟨jj, hj⟩ := List.getElem?_of_mem (show (g, o) ∈ S.2.2.2.2 from hv1.h)
        have he := z_ws_at (fk := fk) (ad := ad) (cA := cA) (w := w) hj
        rw [z_cell_1 (o := (g, o)) ho] at he
        exact va_alen hx hb hK hP jj 0 he (hty1 g ho) rfl hd (kk ls H locs hl hP hS)
      · cases hstep
    · cases hstep
  case invokestatic i =>
    simp only [z_step] at hstep
    rw [Bool.and_eq_true, decide_eq_true_eq] at hchk
    obtain ⟨rfl, h2⟩ := hchk
    split at hstep
    · unfold z_call at hstep
      split at hstep
      · cases hstep
      · cases hstep
    · rename_i ht
      split at hstep
      · rename_i n dp g' o' sp g o r
        split at hstep
        · rename_i ho
          cases hstep
          have h3 : z_ca Ws own i R.frames R.locals = true := by
            split at h2
            · exact absurd rfl ht
            · exact h2
          unfold z_ca at h3
          simp only [Bool.and_eq_true, decide_eq_true_eq, List.contains_iff_mem] at h3
          obtain ⟨⟨⟨⟨⟨w1, w2⟩, w3⟩, w4⟩, w5⟩, w6⟩ := h3
          obtain ⟨k1, k2, k3, k4, k5, k6, k7, k8⟩ := ho
          have nn : ∀ z : Int32, 0 ≤ z.toInt → ¬ z < 0 ∧ ((z.toNatClampNeg : Nat) : Int) = z.toInt := by
            intro z hz
            refine ⟨fun h => ?_, ?_⟩
            · have := Int32.lt_iff_toInt_lt.mp h
              rw [Int32.toInt_zero] at this
              omega
            · show ((z.toInt.toNat : Nat) : Int) = z.toInt
              omega
          obtain ⟨j0, hj0⟩ := List.getElem?_of_mem (show (g, o) ∈ S.2.2.2.2 from hv1.t.t.t.t.h)
          obtain ⟨j1, hj1⟩ := List.getElem?_of_mem (show (g', o') ∈ S.2.2.2.2 from hv1.t.t.h)
          have he0 := z_ws_at (fk := fk) (ad := ad) (cA := cA) (w := w) hj0
          rw [z_cell_1 (o := (g, o)) k1] at he0
          have he1 := z_ws_at (fk := fk) (ad := ad) (cA := cA) (w := w) hj1
          rw [z_cell_1 (o := (g', o')) k2] at he1
          have hset := z_ws_set (fk := fk) (ad := ad) (cA := cA) (w := w) (w' := z_cp w g o sp.toNatClampNeg g' o' dp.toNatClampNeg n.toNatClampNeg) hnd hj1 (z_cp_1 (o := (g', o')) k2) (fun q hq => z_cp_ne (o := (g', o')) hq)
          have e1 := (nn sp k3).2
          have e2 := (nn dp k4).2
          have e3 := (nn n k5).2
          exact va_copyi hx hb (by rw [hml]; exact hl.1.symm) hown (hts _ (hWs _ w1 rfl)) (hts _ (hWs _ w2 rfl)) (hts _ (hWs _ w3 rfl)) (hts _ (hWs _ w4 rfl)) hK hP (hD (by unfold z_isw; dsimp only; split <;> first | rfl | (exfalso; exact ht rfl)) w) hS j0 j1 0 0 he0 he1 (hty1 g k1) (hty1 g k1) rfl (nn sp k3).1 (nn dp k4).1 (nn n k5).1 (by show _ ≤ S.2.1 g o; omega) (by show _ ≤ S.2.1 g' o'; omega) (fun _ _ => rfl) w5 (by rw [z_cat_map]; omega) hd (fun H1 locs1 k1 _ k3 => kk ls H1 locs1 hl (by rw [← hset]; exact k1) k3)
        · cases hstep
      · cases hstep
  case invokevirtual i =>
    simp only [z_step] at hstep
    unfold z_call at hstep
    split at hstep
    · split at hstep
      · cases hstep
      · split at hstep
        · split at hstep
          · cases hstep
          · cases hstep
        · cases hstep
    · cases hstep
  case ireturn =>
    simp only [z_step] at hstep
    split at hstep
    · split at hstep <;> cases hstep
    · cases hstep
  case lreturn =>
    simp only [z_step] at hstep
    split at hstep <;> cases hstep
  case areturn =>
    simp only [z_step] at hstep
    split at hstep <;> cases hstep
  case return_ =>
    simp only [z_step] at hstep
    split at hstep <;> cases hstep
  all_goals (simp only [z_step] at hstep; cases hstep)
end ZW
