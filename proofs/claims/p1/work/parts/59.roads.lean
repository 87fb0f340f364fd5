/-! roads of the class that throw -/
section ZKR
variable {S : z_S} {M : Nat → z_M} {C : Nat → Nat → Option z_I}
theorem z_stk_mono1 : ∀ (n mi : Nat) (f f' : z_F), z_stk S M C n mi f = some f' → z_stk S M C (n + 1) mi f = some f' := by
  intro n
  induction n with
  | zero => intro mi f f' h; cases h
  | succ n ih =>
    intro mi f f' h
    obtain ⟨pc, L, st, w⟩ := f
    rw [z_stk] at h ⊢
    cases hC : C mi pc with
    | none => rw [hC] at h; exact h
    | some I =>
      rw [hC] at h
      dsimp only at h ⊢
      cases hs : z_step S M I pc L st w with
      | none => rw [hs] at h; cases h
      | some z =>
        rw [hs] at h
        rcases z with f1 | rv | ⟨mj, as, rest⟩
        · dsimp only at h ⊢
          exact ih mi f1 f' h
        · cases h
        · dsimp only at h ⊢
          cases hr : z_run S M C n mj (0, z_entry (M mj).2.2.1 as, [], w) with
          | none => rw [hr] at h; cases h
          | some y =>
            rw [hr] at h
            rw [z_mono1 n mj _ y hr]
            exact ih mi _ f' h
theorem z_stk_mono {n k mi : Nat} {f f' : z_F} (hk : n ≤ k) (h : z_stk S M C n mi f = some f') : z_stk S M C k mi f = some f' := by
  induction hk with
  | refl => exact h
  | step _ ih => exact z_stk_mono1 _ _ _ _ ih
def z_K (S : z_S) (M : Nat → z_M) (C : Nat → Nat → Option z_I) (mi : Nat) (f f' : z_F) : Prop := ∃ n, z_stk S M C n mi f = some f'
variable {mi pc a b : Nat} {I : z_I} {L : z_L} {st : List z_V} {w : z_W} {f f' f1 : z_F}
theorem z_K.nil (hC : C mi pc = none) : z_K S M C mi (pc, L, st, w) (pc, L, st, w) := ⟨1, by rw [z_stk, hC]⟩
theorem z_K.go1 (hC : C mi pc = some I) (hs : z_step S M I pc L st w = some (.inl f1)) (k : z_K S M C mi f1 f') : z_K S M C mi (pc, L, st, w) f' := by
  obtain ⟨n, h⟩ := k
  refine ⟨n + 1, ?_⟩
  rw [z_stk, hC]
  dsimp only
  rw [hs]
  exact h
theorem z_K.call {mj : Nat} {as rest : List z_V} (hC : C mi pc = some I) (hs : z_step S M I pc L st w = some (.inr (.inr (mj, as, rest)))) (hk : z_C S M C mj (0, z_entry (M mj).2.2.1 as, [], w) (fun w' r => z_K S M C mi (pc + 3, L, r.toList ++ rest, w') f')) : z_K S M C mi (pc, L, st, w) f' := by
  obtain ⟨n1, w1, r1, h1, n2, h2⟩ := hk
  refine ⟨max n1 n2 + 1, ?_⟩
  rw [z_stk, hC]
  dsimp only
  rw [hs]
  dsimp only
  rw [z_mono (Nat.le_max_left n1 n2) h1]
  exact z_stk_mono (Nat.le_max_right n1 n2) h2
theorem z_K.if {c : Prop} [Decidable c] (h1 : c → z_K S M C mi (a, L, st, w) f') (h2 : ¬ c → z_K S M C mi (b, L, st, w) f') : z_K S M C mi (if c then a else b, L, st, w) f' := by
  split
  · exact h1 ‹_›
  · exact h2 ‹_›
theorem z_K.go : ∀ (k : Nat) {f f1 : z_F}, z_go S M C mi k f = some f1 → z_K S M C mi f1 f' → z_K S M C mi f f'
  | 0, f, f1, h, k => by cases h; exact k
  | n + 1, (pc, L, st, w), f1, h, k => by
    rw [z_go] at h
    cases hC : C mi pc with
    | none => rw [hC] at h; cases h
    | some I =>
      rw [hC] at h
      dsimp only at h
      cases hs : z_step S M I pc L st w with
      | none => rw [hs] at h; cases h
      | some z =>
        rw [hs] at h
        rcases z with f2 | rv | y
        · exact z_K.go1 hC hs (z_K.go n h k)
        · cases h
        · cases h
theorem z_run_sub {C' : Nat → Nat → Option z_I} (hC' : ∀ mi pc I, C' mi pc = some I → C mi pc = some I) : ∀ (n mi : Nat) (f : z_F) (x : z_W × Option z_V), z_run S M C' n mi f = some x → z_run S M C n mi f = some x := by
  intro n
  induction n with
  | zero => intro mi f x h; cases h
  | succ n ih =>
    intro mi f x h
    obtain ⟨pc, L, st, w⟩ := f
    rw [z_run] at h ⊢
    cases hC : C' mi pc with
    | none => rw [hC] at h; cases h
    | some I =>
      rw [hC] at h
      rw [hC' mi pc I hC]
      dsimp only at h ⊢
      cases hs : z_step S M I pc L st w with
      | none => rw [hs] at h; cases h
      | some z =>
        rw [hs] at h
        rcases z with f1 | rv | ⟨mj, as, rest⟩
        · exact ih mi f1 x h
        · exact h
        · dsimp only at h ⊢
          cases hr : z_run S M C' n mj (0, z_entry (M mj).2.2.1 as, [], w) with
          | none => rw [hr] at h; cases h
          | some y =>
            rw [hr] at h
            rw [ih mj _ y hr]
            exact ih mi _ x h
theorem z_C.sub {C' : Nat → Nat → Option z_I} {Q : z_W → Option z_V → Prop} (hC' : ∀ mi pc I, C' mi pc = some I → C mi pc = some I) (h : z_C S M C' mi f Q) : z_C S M C mi f Q := by
  obtain ⟨n, w', r, h1, h2⟩ := h
  exact ⟨n, w', r, z_run_sub hC' n mi f _ h1, h2⟩
end ZKR
abbrev zI (x : Int32) : z_V := .inl x
abbrev zR (g i : Nat) : z_V := .inr (.inr (some (g, i)))
def x_Pc (b : Nat) (cA : Nat → ClassId) (D : va_G) (tys : List (ClassId × FieldType)) (n0 : Nat) (as : List z_V) (w : z_W) : Array Value → State → Prop := fun v U => z_Pc sC zfk (adC b) cA D zcl tys zNs as w v U ∧ t_X n0 U U.heap
theorem x_Pc.blind {b : Nat} {cA : Nat → ClassId} {D : va_G} {tys : List (ClassId × FieldType)} {n0 : Nat} {as : List z_V} {w : z_W} : FrameBlind (x_Pc b cA D tys n0 as w) := by
  intro a U g mk hq
  obtain ⟨⟨q0, qP, qK, qN⟩, hX⟩ := hq
  exact ⟨⟨q0, qP, va_K.moved (u := U) (U := U.calling g mk a) (Vm.Alike.refl U.vm) qK, fun x hx1 => va_Nw.same (u := U) (U := U.calling g mk a) (zNs_on x hx1) rfl (qN x hx1)⟩, hX.call⟩
theorem t_names : ∀ n ∈ ["java/lang/RuntimeException", "java/lang/Exception"], Jvm.Bundle.fit n = true := by decide +kernel
set_option maxRecDepth 100000 in
theorem t_atI : (Jvm.Bundle.ownAtoms "PrintHouse" 183 "java/lang/IllegalStateException" ["java/lang/RuntimeException", "java/lang/Exception"]).all (fun w => (lw_tbl.contains w && (goodWord w || z_xw w)) || decide (w = .laysStatic "java/lang/Throwable" "UNASSIGNED_STACK" "[Ljava/lang/StackTraceElement;") || decide (w = .laysStatic "java/lang/Throwable" "SUPPRESSED_SENTINEL" "Ljava/util/List;") || decide (w = .isRef (.static "java/lang/Throwable" "UNASSIGNED_STACK" "[Ljava/lang/StackTraceElement;")) || decide (w = .isRef (.static "java/lang/Throwable" "SUPPRESSED_SENTINEL" "Ljava/util/List;"))) = true := by decide +kernel
set_option maxRecDepth 100000 in
theorem t_atB : (Jvm.Bundle.ownAtoms "PrintHouse" 149 "java/lang/IndexOutOfBoundsException" ["java/lang/RuntimeException", "java/lang/Exception"]).all (fun w => (lw_tbl.contains w && (goodWord w || z_xw w)) || decide (w = .laysStatic "java/lang/Throwable" "UNASSIGNED_STACK" "[Ljava/lang/StackTraceElement;") || decide (w = .laysStatic "java/lang/Throwable" "SUPPRESSED_SENTINEL" "Ljava/util/List;") || decide (w = .isRef (.static "java/lang/Throwable" "UNASSIGNED_STACK" "[Ljava/lang/StackTraceElement;")) || decide (w = .isRef (.static "java/lang/Throwable" "SUPPRESSED_SENTINEL" "Ljava/util/List;"))) = true := by decide +kernel
/-- a method that comes to a 'throw new E(text)' of its own, writing nothing -/
theorem t_road {l : Launch} (hl : l.stackTraces = false) {b n0 : Nat} {cA : Nat → ClassId} {D : va_G} {tys : List (ClassId × FieldType)} (h1 : tys[0]? = some (cA 0, .int)) (h2 : tys[1]? = some (cA 1, .long)) (h3 : tys[2]? = some (cA 2, .object "PrintHouse$Job"))
    {k : Nat} (hk : k < znM) {as : List z_V} {w : z_W} (hva : z_vs sC as) (hvw : z_vw sC w) (hal : (z_args as).length ≤ (zM k).2.2.1) (hown9 : (zM k).1.cls = "PrintHouse") (hf9 : (zM k).2.2.2.2.2.2.1 ≤ 6) (hl9 : (zM k).2.2.2.2.2.2.2 ≤ 130)
    {pc : Nat} {L : z_L} (hreach : z_K sC zM zCr k (0, z_entry (zM k).2.2.1 as, [], w) (pc, L, [], w)) {E text : String} {ik is ic : Nat} (hE : Jvm.Bundle.fit E = true)
    (hkW : Jvm.Cond.classLink "PrintHouse" ik E ∈ zTs) (hiW : Jvm.Cond.initialized E ∈ zTs)
    (hat : (Jvm.Bundle.ownAtoms "PrintHouse" ic E ["java/lang/RuntimeException", "java/lang/Exception"]).all (fun w => (lw_tbl.contains w && (goodWord w || z_xw w)) || decide (w = .laysStatic "java/lang/Throwable" "UNASSIGNED_STACK" "[Ljava/lang/StackTraceElement;") || decide (w = .laysStatic "java/lang/Throwable" "SUPPRESSED_SENTINEL" "Ljava/util/List;") || decide (w = .isRef (.static "java/lang/Throwable" "UNASSIGNED_STACK" "[Ljava/lang/StackTraceElement;")) || decide (w = .isRef (.static "java/lang/Throwable" "SUPPRESSED_SENTINEL" "Ljava/util/List;"))) = true)
    (hstr : ∀ U : State, t_X n0 U U.heap → ∃ a, vk_R "PrintHouse" is text a U)
    (d0 : decode (zM k).2.1 pc = .ok (.new ik, 3)) (d3 : decode (zM k).2.1 (pc + 3) = .ok (.dup, 1)) (d4 : decode (zM k).2.1 (pc + 4) = .ok (.ldc is, 2)) (d6 : decode (zM k).2.1 (pc + 6) = .ok (.invokespecial ic, 3)) (d9 : decode (zM k).2.1 (pc + 9) = .ok (.athrow, 1)) :
    t_Met l (zM k).1 (z_wm zTs (zM k)) { frames := 6, cells := 1, slots := 6, locals := 130 } (x_Pc b cA D tys n0 as w) E := by
  have ok := z_okCr (ad := adC b) (A := fun _ => False) h1 h2 h3
  have hmo := z_mo k hk
  refine t_ofW (cc := (zM k).2.1) (maxL := (zM k).2.2.1) (ret := (zM k).2.2.2.1) hmo.1 rfl ?_
  intro p e s m args below meth c s₁ B hml hempty hv
  obtain ⟨⟨rfl, hP, hK, hN⟩, hX⟩ := hv
  have hts0 := atoms_spec (ws := z_wm zTs (zM k)) B.pre
  have hts : ∀ w ∈ zTs, w.before (as.map (z_v (adC b))).toArray s = true := fun w hw => hts0 w (List.mem_cons_of_mem _ hw)
  have hown : s.vm.findClass (zM k).1.cls = some m.cls := findClass_of_methodNamed B.named
  have hownP : s.vm.findClass "PrintHouse" = some m.cls := by rw [← hown9]; exact hown
  obtain ⟨sa, hs1, hs2⟩ := hstr s hX
  obtain ⟨n, hn⟩ := hreach
  rw [lg_entry_eq]
  refine z_wstk ok hk B.exec B.bytes hml hown hts hN hK (show _ ≤ 6 from hf9) (show _ ≤ 130 from hl9) (f' := (pc, L, [], w)) (fun ls H locs g1 g2 g3 => ?_) n (0, z_entry (zM k).2.2.1 as, [], w) hn (fun _ hx => by cases hx) (z_vL.entry hva) hvw _ _ [] (z_entry_hl (adC b) as hal) hP va_S.rf
  intro T hT X
  have hlocs : locs = [] := by
    cases locs with
    | nil => rfl
    | cons x r => exact absurd (g3.2.2 x List.mem_cons_self) id
  subst hlocs
  have hheap : T.heap = s.heap := by
    have z1 : T.heap.size = s.heap.size := by
      have a1 := X.same.2.2.1
      have a2 := g3.1
      rw [← hT] at a2
      have a3 : (T.setVm s.vm).heap.size = T.heap.size := rfl
      omega
    apply Array.ext_getElem?
    intro i
    by_cases hi : i < s.heap.size
    · rw [hT]
      exact g3.2.1 i hi (fun h => h)
    · rw [Array.getElem?_eq_none (by omega), Array.getElem?_eq_none (by omega)]
  exact t_throw (text := text) (sa := sa) B.exec B.bytes hl hownP hE t_names (hts _ hkW) (hts _ hiW) hs1 ((Term.string_eval_of_vm (args := #[]) (args' := (as.map (z_v (adC b))).toArray) (U := s) (V := s) rfl).trans hs2) (t_own hts hX hat) (by rw [hml]; exact g1.1) d0 d3 d4 d6 d9 hempty (show 2 + 3 < 6 by omega) (show 13 * (2 + 1) + 43 ≤ 130 by omega) (Nat.le_refl _) (Nat.le_refl _) B.notSynchronized T hheap X
