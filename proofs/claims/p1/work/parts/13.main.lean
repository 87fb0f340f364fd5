/-! the walk of all methods at once -/
def z_Pc (S : z_S) (fk : Nat → List Nat) (ad : z_N → Nat) (cA : Nat → ClassId) (D : va_G) (cl : List vw_C) (tys : List (ClassId × FieldType)) (Ns : List Jvm.Cond) (as : List z_V) (w : z_W) : Array Value → State → Prop :=
  fun v U => v = (as.map (z_v ad)).toArray ∧ va_P D cl (z_ws S fk ad cA w) U.heap ∧ va_K D cl tys U ∧ ∀ x ∈ Ns, va_Nw x U
def z_Qc (S : z_S) (fk : Nat → List Nat) (ad : z_N → Nat) (cA : Nat → ClassId) (D : va_G) (cl : List vw_C) (A : Nat → Prop) (w : z_W) (r : Option z_V) : Array Value → State → Outcome → State → Prop :=
  fun _ st o t => o = .returned (r.map (z_v ad)) ∧ va_P D cl (z_ws S fk ad cA w) t.heap ∧ va_F A st t
def z_rm (mt : z_M) : Room := { frames := mt.2.2.2.2.2.2.1, cells := 0, slots := 0, locals := mt.2.2.2.2.2.2.2 }
def z_wm (Ts : List Jvm.Cond) (mt : z_M) : List Jvm.Cond := Jvm.Cond.code mt.1 mt.2.1 mt.2.2.1 mt.2.2.2.1 :: Ts
section ZR
variable {p : Program} {l : Launch} {e : Env} {R : Room} {s : State} {m : MethodId} {args : Array Value} {below : List Frame} {meth : Method} {c : Code} {H : Heap} {locs : List Loc}
variable {S : z_S} {fk : Nat → List Nat} {ad : z_N → Nat} {cA : Nat → ClassId} {D : va_G} {cl : List vw_C} {tys : List (ClassId × FieldType)} {A : Nat → Prop} {Ts Ws Ns : List Jvm.Cond} {jn hst own : String} {cc : ByteArray} {rt : Option FieldType} {nM : Nat} {M : Nat → z_M}
set_option maxHeartbeats 4000000 in
set_option maxRecDepth 100000 in
theorem z_ret (hx : p.tables.exec = Jvm.exec) (hb : c.code = cc) (hr : meth.sig.returnType = rt) (hlocks : meth.locks = false) {pc : Nat} {I : z_I} {L : z_L} {st : List z_V} {w : z_W} {rv : Option z_V} {ls : Array Slot}
    (hchk : z_chk cl fk nM M Ws jn hst own cc rt R.frames R.locals pc I = true) (hstep : z_step S M I pc L st w = some (.inr (.inl rv))) (hP : va_P D cl (z_ws S fk ad cA w) H) (hS : va_S A s.heap H locs) :
    W p l e R s m args below meth c H locs 0 0 (MQ below (z_Qc S fk ad cA D cl A w rv) args s 0 0 A) (F0 m pc ls (st.map (z_v ad))) := by
  obtain ⟨ins, len, a, b, t, q, c0, d⟩ := I
  unfold z_chk at hchk
  rw [Bool.and_eq_true, decide_eq_true_eq] at hchk
  obtain ⟨hd, hchk⟩ := hchk
  dsimp only at hd hchk
  cases ins
  case ireturn =>
    simp only [z_step] at hstep
    simp only [Bool.and_eq_true, decide_eq_true_eq] at hchk
    obtain ⟨rfl, h2⟩ := hchk
    split at hstep
    · rename_i x
      split at hstep
      · rename_i ht
        cases hstep
        have hn : narrow (if t = 0 then .int else .boolean) (.int x) = .int x := by
          rcases ht with h | h
          · rw [if_pos h]; rfl
          · by_cases h0 : t = 0
            · rw [if_pos h0]; rfl
            · rw [if_neg h0]
              rcases h with rfl | rfl <;> rfl
        exact W.zret hx hb (hr.trans h2) hn (fun t ht _ => ⟨rfl, by rw [ht]; exact hP, hS.F ht⟩) hS.2.2 hd hlocks
      · cases hstep
    · cases hstep
  case lreturn =>
    simp only [z_step] at hstep
    simp only [Bool.and_eq_true, decide_eq_true_eq] at hchk
    obtain ⟨rfl, h2⟩ := hchk
    split at hstep
    · cases hstep
      exact W.lret hx hb (hr.trans h2) (fun t ht _ => ⟨rfl, by rw [ht]; exact hP, hS.F ht⟩) hS.2.2 hd hlocks
    · cases hstep
  case areturn =>
    simp only [z_step] at hstep
    rw [Bool.and_eq_true, decide_eq_true_eq] at hchk
    obtain ⟨rfl, h2⟩ := hchk
    split at h2
    · rename_i nm
      split at hstep
      · rename_i x
        cases hstep
        cases x with
        | none => exact W.aret hx hb hr (Or.inl ⟨nm, rfl⟩) (Or.inl rfl) (fun t ht _ => ⟨rfl, by rw [ht]; exact hP, hS.F ht⟩) hS.2.2 hd hlocks
        | some x => exact W.aret hx hb hr (Or.inl ⟨nm, rfl⟩) (Or.inr ⟨_, rfl⟩) (fun t ht _ => ⟨rfl, by rw [ht]; exact hP, hS.F ht⟩) hS.2.2 hd hlocks
      · cases hstep
    · cases h2
  case return_ =>
    simp only [z_step] at hstep
    simp only [Bool.and_eq_true, decide_eq_true_eq] at hchk
    obtain ⟨rfl, h2⟩ := hchk
    split at hstep
    · cases hstep
      exact W.vret hx hb (hr.trans h2) (fun t ht _ => ⟨rfl, by rw [ht]; exact hP, hS.F ht⟩) hS.2.2 hd hlocks
    · cases hstep
  case invokevirtual i =>
    simp only [z_step] at hstep
    unfold z_call at hstep
    (repeat' split at hstep) <;> cases hstep
  case invokestatic i =>
    simp only [z_step] at hstep
    unfold z_call at hstep
    (repeat' split at hstep) <;> cases hstep
  all_goals (simp only [z_step] at hstep; (first | (cases hstep; done) | ((repeat' split at hstep) <;> cases hstep)))
/-- what a call is -/
theorem z_call_spec {k n nL mj mi' : Nat} {st as rest : List z_V} (h : z_call S k n nL mj st = some (.inr (.inr (mi', as, rest)))) :
    mi' = mj ∧ st = as.reverse ++ rest ∧ as.length = n ∧ z_cat rest ≤ 8 ∧ (z_args as).length ≤ nL ∧ (k ≠ 0 → ∃ g o as', as = (.inr (.inr (some (g, o)))) :: as' ∧ S.1 g = k) := by
  unfold z_call at h
  split at h
  · rename_i hc
    obtain ⟨h1, h2, h3⟩ := hc
    have hst : st = ((st.take n).reverse).reverse ++ st.drop n := by rw [List.reverse_reverse, List.take_append_drop]
    have hln : ((st.take n).reverse).length = n := by rw [List.length_reverse, List.length_take]; omega
    split at h
    · cases h
      exact ⟨rfl, hst, hln, h2, h3, fun q => absurd rfl q⟩
    · split at h
      · rename_i g o as' he
        split at h
        · rename_i ho
          cases h
          exact ⟨rfl, hst, hln, h2, h3, fun _ => ⟨g, o, as', he, ho⟩⟩
        · cases h
      · cases h
  · cases h
set_option maxHeartbeats 4000000 in
set_option maxRecDepth 100000 in
theorem z_inv {nL pc mj : Nat} {I : z_I} {L : z_L} {st as rest : List z_V} {w w1 : z_W} {r1 : Option z_V} {ls : Array Slot} {Q : State → Prop} (hx : p.tables.exec = Jvm.exec) (hb : c.code = cc) (hown : s.vm.findClass own = some m.cls) (hts : ∀ w ∈ Ts, w.before args s = true) (hWs : ∀ w ∈ Ws, goodWord w = true → w ∈ Ts) (hWN : ∀ w ∈ Ws, z_nest w = true → w ∈ Ns) (hNs : ∀ w ∈ Ns, va_Nw w s) (hK : va_K D cl tys s)
    (hgood : ∀ w ∈ Ts, goodWord w = true) (hNt : ∀ w ∈ Ns, w.onTables = true) (hNm : ∀ w ∈ Ns, ∀ s U : State, s.WarmedH U.vm → va_Nw w s → va_Nw w U)
    (hv1 : z_vs S st) (hMO : ∀ mi, mi < nM → z_MO cl Ts (M mi)) (hml : c.maxLocals = nL) (hls : ls.size = nL)
    (hchk : z_chk cl fk nM M Ws jn hst own cc rt R.frames R.locals pc I = true) (hstep : z_step S M I pc L st w = some (.inr (.inr (mj, as, rest))))
    (hP : va_P D cl (z_ws S fk ad cA w) H) (hS : va_S A s.heap H locs)
    (hMet : mj < nM → (z_args as).length ≤ (M mj).2.2.1 → Met l (M mj).1 (z_wm Ts (M mj)) (z_rm (M mj)) (z_Pc S fk ad cA D cl tys Ns as w) (z_Qc S fk ad cA D cl A w1 r1) 0 0 A)
    (kk : ∀ (H' : Heap) (locs' : List Loc), va_P D cl (z_ws S fk ad cA w1) H' → va_S A s.heap H' locs' → W p l e R s m args below meth c H' locs' 0 0 Q (F0 m (pc + 3) ls ((r1.toList ++ rest).map (z_v ad)))) :
    W p l e R s m args below meth c H locs 0 0 Q (F0 m pc ls (st.map (z_v ad))) := by
  have fin : ∀ (v : Option Value) (st₀ t : State) (H1 : Heap) (locs1 : List Loc), st₀.heap = H → z_Qc S fk ad cA D cl A w1 r1 (as.map (z_v ad)).toArray st₀ (.returned v) t → t.heap = H1 → (∀ x ∈ locs1, x ∈ locs ∨ A x.base) → W p l e R s m args below meth c H1 locs1 0 0 Q (F0 m (pc + 3) ls (v.toList ++ rest.map (z_v ad))) := by
    intro v st₀ t H1 locs1 h0 hq ht hl1
    obtain ⟨q1, q2, q3⟩ := hq
    have hv : v = r1.map (z_v ad) := by cases q1; rfl
    have e1 : v.toList ++ rest.map (z_v ad) = (r1.toList ++ rest).map (z_v ad) := by
      rw [hv, List.map_append]
      cases r1 <;> rfl
    rw [e1]
    refine kk H1 locs1 (by rw [← ht]; exact q2) ⟨?_, ?_, ?_⟩
    · exact Nat.le_trans hS.1 (by rw [← h0, ← ht]; exact q3.1)
    · intro q g1 g2
      rw [← ht, q3.2 q (by rw [h0]; exact Nat.lt_of_lt_of_le g1 hS.1) g2, h0]
      exact hS.2.1 q g1 g2
    · intro x hx1
      rcases hl1 x hx1 with h | h
      · exact hS.2.2 x h
      · exact h
  have blind : FrameBlind (z_Pc S fk ad cA D cl tys Ns as w) := by
    intro a U g mk hq
    obtain ⟨q0, qP, qK, qN⟩ := hq
    exact ⟨q0, qP, va_K.moved (u := U) (U := U.calling g mk a) (Vm.Alike.refl U.vm) qK, fun x hx1 => va_Nw.same (u := U) (U := U.calling g mk a) (hNt x hx1) rfl (qN x hx1)⟩
  have pre : ∀ U : State, U.heap = H → s.WarmedH U.vm → z_Pc S fk ad cA D cl tys Ns as w (as.map (z_v ad)).toArray U := fun U hU hW =>
    ⟨rfl, by rw [hU]; exact hP, va_K.moved hW.alike hK, fun x hx1 => hNm x hx1 s U hW (hNs x hx1)⟩
  obtain ⟨ins, len, a, b, t, q, c0, d⟩ := I
  unfold z_chk at hchk
  rw [Bool.and_eq_true, decide_eq_true_eq] at hchk
  obtain ⟨hd, hchk⟩ := hchk
  dsimp only at hd hchk
  have back : a < nM → (M a).2.2.2.2.2.2.1 + 1 ≤ R.frames → 8 + ((M a).2.2.1 + 11) + (M a).2.2.2.2.2.2.2 ≤ R.locals →
      ((z_rm (M a)).cells = 0 ∧ (z_rm (M a)).slots = 0 ∧ (z_rm (M a)).frames + 1 ≤ R.frames ∧ 8 + ((M a).2.2.1 + 11) + (z_rm (M a)).locals ≤ R.locals ∧ (∀ w ∈ z_wm Ts (M a), ∀ (a' : Array Value) (U : State), s.WarmedH U.vm → w.before a' U = true) ∧ Jvm.Cond.code (M a).1 (M a).2.1 (M a).2.2.1 (M a).2.2.2.1 ∈ z_wm Ts (M a)) := by
    intro h1 h2 h3
    refine ⟨rfl, rfl, h2, h3, ?_, List.mem_cons_self⟩
    intro x hx1 a' U hW
    have hxT : x ∈ Ts := by
      rcases List.mem_cons.mp hx1 with rfl | h
      · exact (hMO a h1).2.2.1
      · exact h
    exact word_at hW (good_of_word (hgood x hxT)) (hts x hxT)
  cases ins
  case invokevirtual i =>
    simp only [z_step] at hstep
    obtain ⟨rfl, hstk, hlen, hcat, hargs, hrecv⟩ := z_call_spec hstep
    simp only [Bool.and_eq_true, decide_eq_true_eq] at hchk
    obtain ⟨⟨⟨rfl, h2⟩, h3⟩, h4⟩ := hchk
    unfold z_cr at h3
    simp only [Bool.and_eq_true, decide_eq_true_eq] at h3
    obtain ⟨⟨r1', r2⟩, r3⟩ := h3
    obtain ⟨m1, m2, m3, m4, m5, m6, m7⟩ := hMO mj r1'
    obtain ⟨m8, m9, ci, T, N, m10, m11⟩ := m7 h4
    obtain ⟨g, o, as', rfl, ho⟩ := hrecv h4
    have hin : (g, o) ∈ S.2.2.2.2 := hv1 (.inr (.inr (some (g, o)))) (by rw [hstk]; simp)
    obtain ⟨jj, hj⟩ := List.getElem?_of_mem hin
    have he := z_ws_at (fk := fk) (ad := ad) (cA := cA) (w := w) hj
    rw [z_cell_o (o := (g, o)) (a := ci) (by rw [ho]; exact m10)] at he
    have hcell := va_recv hK hP m11 he
    have hpar : ∀ sig, parseMethodDescriptor (M mj).1.desc = some sig → as'.length = sig.parameters.length := by
      intro sig hsig
      have := m5 sig hsig
      rw [if_neg h4] at this
      simp only [List.length_cons] at hlen
      omega
    have hstack : (st.map (z_v ad)) = (as'.map (z_v ad)).reverse ++ Value.ref (ad (g, o)) :: rest.map (z_v ad) := by
      rw [hstk]
      simp [z_v]
    have hbk := back r1' r2 r3
    by_cases hq : q % 2 = 0
    · unfold z_cl at h2
      rw [if_pos hq, decide_eq_true_eq] at h2
      exact z_wcall (va_runV (As := as'.map (z_v ad)) (b := ad (g, o)) (C := (M mj).1.cls) (index := i) (bytes := (M mj).2.1) (maxL := (M mj).2.2.1) (ret := (M mj).2.2.2.1) (n := as'.length) ⟨hx, hb, hml, hown, hts⟩ (hMet r1' hargs)
        ⟨⟨hbk.1, hbk.2.1, hbk.2.2.1, hbk.2.2.2.1, hbk.2.2.2.2.1, hbk.2.2.2.2.2, hts _ m3, hts _ m4, m2, hpar, hts _ (hWs _ (List.mem_of_getElem? h2) rfl)⟩, hts _ m8, hts _ m9⟩
        ⟨blind, hcell, pre⟩ rfl (by simp) hls hstack (lv_room (by rw [z_cat_map]; exact hcat)) hd ⟨Nat.zero_le _, Nat.zero_le _⟩) fin
    · unfold z_cl at h2
      rw [if_neg hq, decide_eq_true_eq] at h2
      exact z_wcall (va_runVN (As := as'.map (z_v ad)) (b := ad (g, o)) (C := (M mj).1.cls) (index := i) (host := hst) (bytes := (M mj).2.1) (maxL := (M mj).2.2.1) (ret := (M mj).2.2.2.1) (n := as'.length) ⟨hx, hb, hml, hown, hts⟩ (hMet r1' hargs)
        ⟨⟨hbk, hts _ m3, hts _ m4, m2, hpar, va_Nw.use rfl (hNs _ (hWN _ (List.mem_of_getElem? h2) rfl))⟩, hts _ m8, hts _ m9⟩
        ⟨blind, hcell, pre⟩ rfl (by simp) hls hstack (lv_room (by rw [z_cat_map]; exact hcat)) hd ⟨Nat.zero_le _, Nat.zero_le _⟩) fin
  case invokestatic i =>
    simp only [z_step] at hstep
    rw [Bool.and_eq_true, decide_eq_true_eq] at hchk
    obtain ⟨rfl, h2⟩ := hchk
    split at hstep
    · obtain ⟨rfl, hstk, hlen, hcat, hargs, -⟩ := z_call_spec hstep
      simp only [Bool.and_eq_true, decide_eq_true_eq] at h2
      obtain ⟨⟨h2, h3⟩, h4⟩ := h2
      unfold z_cr at h3
      simp only [Bool.and_eq_true, decide_eq_true_eq] at h3
      obtain ⟨⟨r1', r2⟩, r3⟩ := h3
      obtain ⟨m1, m2, m3, m4, m5, m6, m7⟩ := hMO mj r1'
      have hpar : ∀ sig, parseMethodDescriptor (M mj).1.desc = some sig → as.length = sig.parameters.length := by
        intro sig hsig
        have := m5 sig hsig
        rw [if_pos h4] at this
        omega
      have hstack : (st.map (z_v ad)) = (as.map (z_v ad)).reverse ++ rest.map (z_v ad) := by
        rw [hstk]
        simp
      have hbk := back r1' r2 r3
      by_cases hq : q % 2 = 0
      · unfold z_cl at h2
        rw [if_pos hq, decide_eq_true_eq] at h2
        exact z_wcall (va_runS (As := as.map (z_v ad)) (index := i) (bytes := (M mj).2.1) (maxL := (M mj).2.2.1) (ret := (M mj).2.2.2.1) (n := as.length) ⟨hx, hb, hml, hown, hts⟩ (hMet r1' hargs)
          ⟨⟨hbk.1, hbk.2.1, hbk.2.2.1, hbk.2.2.2.1, hbk.2.2.2.2.1, hbk.2.2.2.2.2, hts _ m3, hts _ m4, m2, hpar, hts _ (hWs _ (List.mem_of_getElem? h2) rfl)⟩, hts _ (m6 h4)⟩
          ⟨blind, pre⟩ rfl (by simp) hls hstack (lv_room (by rw [z_cat_map]; exact hcat)) hd ⟨Nat.zero_le _, Nat.zero_le _⟩) fin
      · unfold z_cl at h2
        rw [if_neg hq, decide_eq_true_eq] at h2
        exact z_wcall (va_runSN (As := as.map (z_v ad)) (index := i) (host := hst) (bytes := (M mj).2.1) (maxL := (M mj).2.2.1) (ret := (M mj).2.2.2.1) (n := as.length) ⟨hx, hb, hml, hown, hts⟩ (hMet r1' hargs)
          ⟨⟨hbk, hts _ m3, hts _ m4, m2, hpar, va_Nw.use rfl (hNs _ (hWN _ (List.mem_of_getElem? h2) rfl))⟩, hts _ (m6 h4), trivial⟩
          ⟨blind, pre⟩ rfl (by simp) hls hstack (lv_room (by rw [z_cat_map]; exact hcat)) hd ⟨Nat.zero_le _, Nat.zero_le _⟩) fin
    · (repeat' split at hstep) <;> cases hstep
  all_goals (simp only [z_step] at hstep; (first | (cases hstep; done) | ((repeat' split at hstep) <;> cases hstep)))
end ZR
section ZP
variable {S : z_S} {M : Nat → z_M} {I : z_I} {pc pc' : Nat} {L L' : z_L} {st st' : List z_V} {w w' : z_W}
set_option maxHeartbeats 4000000 in
set_option maxRecDepth 100000 in
theorem z_pres (hrr : ∀ o ∈ S.2.2.2.2, ∀ k, S.2.2.1 o.1 o.2 k ∈ S.2.2.2.2) (hstep : z_step S M I pc L st w = some (.inl (pc', L', st', w'))) (h1 : z_vs S st) (h2 : z_vL S L) (h3 : z_vw S w) : z_vs S st' ∧ z_vL S L' ∧ z_vw S w' := by
  obtain ⟨ins, len, a, b, t, q, c0, d⟩ := I
  cases ins
  case aload_n k =>
    simp only [z_step] at hstep
    split at hstep
    · rename_i x hv
      cases hstep
      exact ⟨z_vs.c (h2.ld hv) h1, h2, h3⟩
    · cases hstep
  case aload k =>
    simp only [z_step] at hstep
    split at hstep
    · rename_i x hv
      cases hstep
      exact ⟨z_vs.c (h2.ld hv) h1, h2, h3⟩
    · cases hstep
  case getfield i =>
    simp only [z_step] at hstep
    split at hstep
    · rename_i g o r
      split at hstep
      · split at hstep
        · cases hstep
          exact ⟨z_vs.c (hrr (g, o) h1.h b) h1.t, h2, h3⟩
        · cases hstep
          exact ⟨z_vs.c trivial h1.t, h2, h3⟩
      · cases hstep
    · cases hstep
  case aaload =>
    simp only [z_step] at hstep
    split at hstep
    · split at hstep
      · cases hstep
        exact ⟨z_vs.c (h3 _ _ _) h1.t.t, h2, h3⟩
      · cases hstep
    · cases hstep
  case aastore =>
    simp only [z_step] at hstep
    split at hstep
    · rename_i g' v i g o r
      split at hstep
      · rename_i ho
        cases hstep
        refine ⟨h1.t.t.t, h2, fun x y z => ?_⟩
        show (S.2.2.2.1, (z_sr w g o i.toNatClampNeg v).2.2 x y z) ∈ S.2.2.2.2
        unfold z_sr
        dsimp only
        split
        · have := h1.h
          rw [ho.2.2.1] at this
          exact this
        · exact h3 _ _ _
      · cases hstep
    · cases hstep
  case invokevirtual i =>
    simp only [z_step] at hstep
    unfold z_call at hstep
    (repeat' split at hstep) <;> cases hstep
  case invokestatic i =>
    simp only [z_step] at hstep
    unfold z_call at hstep
    (repeat' split at hstep) <;> first | (cases hstep; done) | (cases hstep; exact ⟨h1.t.t.t.t.t, h2, h3⟩)
  case dup =>
    simp only [z_step] at hstep
    split at hstep
    · cases hstep
      exact ⟨z_vs.c trivial h1, h2, h3⟩
    · cases hstep
      exact ⟨z_vs.c h1.h h1, h2, h3⟩
    · cases hstep
  case dup2 =>
    simp only [z_step] at hstep
    split at hstep
    · cases hstep
      exact ⟨z_vs.c trivial (z_vs.c h1.t.h h1), h2, h3⟩
    · cases hstep
  all_goals
    simp only [z_step] at hstep
    (repeat' split at hstep) <;> first
      | (cases hstep; done)
      | (cases hstep; first
        | exact ⟨h1, h2, h3⟩
        | exact ⟨h1.t, h2, h3⟩
        | exact ⟨h1.t.t, h2, h3⟩
        | exact ⟨h1.t.t.t, h2, h3⟩
        | exact ⟨z_vs.c trivial h1, h2, h3⟩
        | exact ⟨z_vs.c trivial h1.t, h2, h3⟩
        | exact ⟨z_vs.c trivial h1.t.t, h2, h3⟩
        | exact ⟨h1.t, h2.st1 trivial, h3⟩
        | exact ⟨h1.t, h2.st1 h1.h, h3⟩
        | exact ⟨h1.t, h2.st2 trivial, h3⟩
        | exact ⟨h1, h2.st1 trivial, h3⟩)
end ZP
section ZQ
variable {S : z_S} {M : Nat → z_M} {I : z_I} {pc : Nat} {L : z_L} {st : List z_V} {w : z_W}
set_option maxHeartbeats 4000000 in
set_option maxRecDepth 100000 in
theorem z_retv {rv : Option z_V} (hstep : z_step S M I pc L st w = some (.inr (.inl rv))) (h1 : z_vs S st) : z_vs S rv.toList := by
  obtain ⟨ins, len, a, b, t, q, c0, d⟩ := I
  cases ins
  case ireturn =>
    simp only [z_step] at hstep
    (repeat' split at hstep) <;> first | (cases hstep; done) | (cases hstep; exact z_vs.c trivial (fun _ h => by cases h))
  case lreturn =>
    simp only [z_step] at hstep
    (repeat' split at hstep) <;> first | (cases hstep; done) | (cases hstep; exact z_vs.c trivial (fun _ h => by cases h))
  case areturn =>
    simp only [z_step] at hstep
    (repeat' split at hstep) <;> first | (cases hstep; done) | (cases hstep; exact h1)
  case return_ =>
    simp only [z_step] at hstep
    (repeat' split at hstep) <;> first | (cases hstep; done) | (cases hstep; exact fun _ h => by cases h)
  case invokevirtual i =>
    simp only [z_step] at hstep
    unfold z_call at hstep
    (repeat' split at hstep) <;> cases hstep
  case invokestatic i =>
    simp only [z_step] at hstep
    unfold z_call at hstep
    (repeat' split at hstep) <;> cases hstep
  all_goals (simp only [z_step] at hstep; (first | (cases hstep; done) | ((repeat' split at hstep) <;> cases hstep)))
set_option maxHeartbeats 4000000 in
set_option maxRecDepth 100000 in
theorem z_callv {mj : Nat} {as rest : List z_V} (hstep : z_step S M I pc L st w = some (.inr (.inr (mj, as, rest)))) (h1 : z_vs S st) : z_vs S as ∧ z_vs S rest := by
  have key : ∀ k n nL a, z_call S k n nL a st = some (.inr (.inr (mj, as, rest))) → z_vs S as ∧ z_vs S rest := by
    intro k n nL a h
    obtain ⟨-, hst, -⟩ := z_call_spec h
    subst hst
    exact ⟨fun v hv => h1 v (List.mem_append_left _ (List.mem_reverse.mpr hv)), fun v hv => h1 v (List.mem_append_right _ hv)⟩
  obtain ⟨ins, len, a, b, t, q, c0, d⟩ := I
  cases ins
  case invokevirtual i =>
    simp only [z_step] at hstep
    exact key _ _ _ _ hstep
  case invokestatic i =>
    simp only [z_step] at hstep
    split at hstep
    · exact key _ _ _ _ hstep
    · (repeat' split at hstep) <;> cases hstep
  all_goals (simp only [z_step] at hstep; (first | (cases hstep; done) | ((repeat' split at hstep) <;> cases hstep)))
end ZQ
section ZMAIN
variable {l : Launch} {S : z_S} {fk : Nat → List Nat} {ad : z_N → Nat} {cA : Nat → ClassId} {D : va_G} {cl : List vw_C} {tys : List (ClassId × FieldType)} {A : Nat → Prop} {Ts Ws Ns : List Jvm.Cond} {jn hst : String} {nM : Nat} {M : Nat → z_M} {C : Nat → Nat → Option z_I}
/-- what is true of a side, whatever its world -/
def z_OK (S : z_S) (fk : Nat → List Nat) (ad : z_N → Nat) (cA : Nat → ClassId) (cl : List vw_C) (tys : List (ClassId × FieldType)) (A : Nat → Prop) (Ts Ws Ns : List Jvm.Cond) (jn hst : String) (nM : Nat) (M : Nat → z_M) (C : Nat → Nat → Option z_I) : Prop :=
  ((∀ w ∈ Ws, goodWord w = true → w ∈ Ts) ∧ ∀ w ∈ Ws, z_nest w = true → w ∈ Ns) ∧ (∀ w ∈ Ts, goodWord w = true) ∧ (∀ w ∈ Ns, w.onTables = true) ∧ (∀ w ∈ Ns, ∀ s U : State, s.WarmedH U.vm → va_Nw w s → va_Nw w U) ∧
  (S.2.2.2.2.Nodup ∧ ∀ o ∈ S.2.2.2.2, ∀ k, S.2.2.1 o.1 o.2 k ∈ S.2.2.2.2) ∧ ((∀ o, S.1 o = 1 → tys[0]? = some (cA 0, .int)) ∧ (∀ o, S.1 o = 2 → tys[1]? = some (cA 1, .long)) ∧ (∀ o, S.1 o = 3 → tys[2]? = some (cA 2, .object jn))) ∧
  z_CL cl fk Ts ∧ (∀ mi pc I, mi < nM → C mi pc = some I → z_isw I = true → ∀ w, va_D A (z_ws S fk ad cA w)) ∧ (∀ mi, mi < nM → z_MO cl Ts (M mi)) ∧
  (∀ mi pc I, mi < nM → C mi pc = some I → z_chk cl fk nM M Ws jn hst (M mi).1.cls (M mi).2.1 (M mi).2.2.2.1 (M mi).2.2.2.2.2.2.1 (M mi).2.2.2.2.2.2.2 pc I = true)
def z_WR (l : Launch) (S : z_S) (fk : Nat → List Nat) (ad : z_N → Nat) (cA : Nat → ClassId) (D : va_G) (cl : List vw_C) (tys : List (ClassId × FieldType)) (A : Nat → Prop) (Ts Ns : List Jvm.Cond) (nM : Nat) (M : Nat → z_M) (C : Nat → Nat → Option z_I) (n : Nat) : Prop :=
  ∀ (p : Program) (e : Env) (s : State) (m : MethodId) (args : Array Value) (below : List Frame) (meth : Method) (c : Code) (mi : Nat), mi < nM → p.tables.exec = Jvm.exec → c.code = (M mi).2.1 → c.maxLocals = (M mi).2.2.1 → meth.sig.returnType = (M mi).2.2.2.1 → meth.locks = false → s.vm.findClass (M mi).1.cls = some m.cls → (∀ w ∈ Ts, w.before args s = true) → (∀ w ∈ Ns, va_Nw w s) → va_K D cl tys s →
    ∀ (f : z_F) (w' : z_W) (r : Option z_V), z_run S M C n mi f = some (w', r) → z_vs S f.2.2.1 → z_vL S f.2.1 → z_vw S f.2.2.2 → ∀ (ls : Array Slot) (H : Heap) (locs : List Loc), z_hl ad ls (M mi).2.2.1 f.2.1 → va_P D cl (z_ws S fk ad cA f.2.2.2) H → va_S A s.heap H locs →
      W p l e (z_rm (M mi)) s m args below meth c H locs 0 0 (MQ below (z_Qc S fk ad cA D cl A w' r) args s 0 0 A) (F0 m f.1 ls (f.2.2.1.map (z_v ad)))
theorem z_met {n : Nat} (IH : z_WR l S fk ad cA D cl tys A Ts Ns nM M C n) (ok : z_OK S fk ad cA cl tys A Ts Ws Ns jn hst nM M C) {mi : Nat} (hmi : mi < nM) {as : List z_V} {w w' : z_W} {r : Option z_V}
    (h : z_run S M C n mi (0, z_entry (M mi).2.2.1 as, [], w) = some (w', r)) (hal : (z_args as).length ≤ (M mi).2.2.1) (hva : z_vs S as) (hvw : z_vw S w) :
    Met l (M mi).1 (z_wm Ts (M mi)) (z_rm (M mi)) (z_Pc S fk ad cA D cl tys Ns as w) (z_Qc S fk ad cA D cl A w' r) 0 0 A := by
  obtain ⟨o1, o2, o3, o4, o5, o6, o7, o8, o9, o10⟩ := ok
  refine Met.ofW (cc := (M mi).2.1) (maxL := (M mi).2.2.1) (ret := (M mi).2.2.2.1) (o9 mi hmi).1 rfl ?_
  intro p e s m args below meth c s₁ B hml hv
  obtain ⟨rfl, hP, hK, hN⟩ := hv
  have hts := atoms_spec (ws := z_wm Ts (M mi)) B.pre
  rw [lg_entry_eq]
  exact IH p e s m _ below meth c mi hmi B.exec B.bytes hml B.returns B.notSynchronized (findClass_of_methodNamed B.named) (fun w hw => hts w (List.mem_cons_of_mem _ hw)) hN hK (0, z_entry (M mi).2.2.1 as, [], w) w' r h (fun _ hx => by cases hx) (z_vL.entry hva) hvw _ _ [] (z_entry_hl ad as hal) hP va_S.rf
/-- a run keeps references among the names -/
theorem z_keep (hrr : ∀ o ∈ S.2.2.2.2, ∀ k, S.2.2.1 o.1 o.2 k ∈ S.2.2.2.2) : ∀ (n mi : Nat) (f : z_F) (w' : z_W) (r : Option z_V), z_run S M C n mi f = some (w', r) → z_vs S f.2.2.1 → z_vL S f.2.1 → z_vw S f.2.2.2 → z_vw S w' ∧ z_vs S r.toList := by
  intro n
  induction n with
  | zero => intro mi f w' r h; cases h
  | succ n ih =>
    intro mi f w' r h h1 h2 h3
    obtain ⟨pc, L, st, w⟩ := f
    rw [z_run] at h
    cases hC : C mi pc with
    | none => rw [hC] at h; cases h
    | some I =>
      rw [hC] at h
      dsimp only at h h1 h2 h3
      cases hs : z_step S M I pc L st w with
      | none => rw [hs] at h; cases h
      | some z =>
        rw [hs] at h
        rcases z with f1 | rv | ⟨mj, as, rest⟩
        · dsimp only at h
          obtain ⟨pc', L', st', w1⟩ := f1
          obtain ⟨a1, a2, a3⟩ := z_pres hrr hs h1 h2 h3
          exact ih mi _ w' r h a1 a2 a3
        · dsimp only at h
          cases h
          exact ⟨h3, z_retv hs h1⟩
        · dsimp only at h
          obtain ⟨g1, g2⟩ := z_callv hs h1
          cases hr : z_run S M C n mj (0, z_entry (M mj).2.2.1 as, [], w) with
          | none => rw [hr] at h; cases h
          | some y =>
            obtain ⟨w1, r1⟩ := y
            rw [hr] at h
            obtain ⟨b1, b2⟩ := ih mj _ w1 r1 hr (fun _ hx => by cases hx) (z_vL.entry g1) h3
            refine ih mi _ w' r h (fun v hv => ?_) h2 b1
            rcases List.mem_append.mp hv with hv | hv
            · exact b2 v hv
            · exact g2 v hv
theorem z_wr (ok : z_OK S fk ad cA cl tys A Ts Ws Ns jn hst nM M C) : ∀ n, z_WR l S fk ad cA D cl tys A Ts Ns nM M C n := by
  intro n
  induction n with
  | zero =>
    intro p e s m args below meth c mi hmi hx hb hml hr hlk hown hts hNs hK f w' r h
    cases h
  | succ n ih =>
    intro p e s m args below meth c mi hmi hx hb hml hr hlk hown hts hNs hK f w' r h hv1 hv2 hv3 ls H locs hl hP hS
    obtain ⟨pc, L, st, w⟩ := f
    have ok' := ok
    obtain ⟨⟨o1, o1n⟩, o2, o3, o4, ⟨o5, o5r⟩, ⟨o6a, o6b, o6c⟩, o7, o8, o9, o10⟩ := ok'
    dsimp only at hv1 hv2 hv3 hl hP
    rw [z_run] at h
    cases hC : C mi pc with
    | none => rw [hC] at h; cases h
    | some I =>
      rw [hC] at h
      dsimp only at h
      have hchk := o10 mi pc I hmi hC
      cases hst0 : z_step S M I pc L st w with
      | none => rw [hst0] at h; cases h
      | some z =>
        rw [hst0] at h
        rcases z with f1 | rv | ⟨mj, as, rest⟩
        · dsimp only at h
          obtain ⟨pc', L', st', w1⟩ := f1
          obtain ⟨a1, a2, a3⟩ := z_pres o5r hst0 hv1 hv2 hv3
          exact z_next (R := z_rm (M mi)) hx hb hown hts o1 o1n hNs hK o5 o6a o6b o6c o7 (o8 mi pc I hmi hC) hml hchk hst0 hl hv1 hP hS (fun ls' H' locs' b1 b2 b3 => ih p e s m args below meth c mi hmi hx hb hml hr hlk hown hts hNs hK (pc', L', st', w1) w' r h a1 a2 a3 ls' H' locs' b1 b2 b3)
        · dsimp only at h
          cases h
          exact z_ret (R := z_rm (M mi)) hx hb hr hlk hchk hst0 hP hS
        · dsimp only at h
          obtain ⟨g1, g2⟩ := z_callv hst0 hv1
          cases hrun : z_run S M C n mj (0, z_entry (M mj).2.2.1 as, [], w) with
          | none => rw [hrun] at h; cases h
          | some y =>
            obtain ⟨w1, r1⟩ := y
            rw [hrun] at h
            dsimp only at h
            obtain ⟨b1, b2⟩ := z_keep o5r n mj _ w1 r1 hrun (fun _ hx => by cases hx) (z_vL.entry g1) hv3
            exact z_inv (R := z_rm (M mi)) hx hb hown hts o1 o1n hNs hK o2 o3 o4 hv1 o9 hml hl.1 hchk hst0 hP hS (fun hj ha => z_met ih ok hj hrun ha g1 hv3) (fun H' locs' a2 a3 => ih p e s m args below meth c mi hmi hx hb hml hr hlk hown hts hNs hK (pc + 3, L, r1.toList ++ rest, w1) w' r h (fun v hv => by
              rcases List.mem_append.mp hv with hv | hv
              · exact b2 v hv
              · exact g2 v hv) hv2 b1 ls H' locs' hl a2 a3)
/-- a method's contract is its run in the abstract machine -/
theorem z_main (ok : z_OK S fk ad cA cl tys A Ts Ws Ns jn hst nM M C) {n mi : Nat} (hmi : mi < nM) {as : List z_V} {w w' : z_W} {r : Option z_V}
    (h : z_run S M C n mi (0, z_entry (M mi).2.2.1 as, [], w) = some (w', r)) (hal : (z_args as).length ≤ (M mi).2.2.1) (hva : z_vs S as) (hvw : z_vw S w) :
    Met l (M mi).1 (z_wm Ts (M mi)) (z_rm (M mi)) (z_Pc S fk ad cA D cl tys Ns as w) (z_Qc S fk ad cA D cl A w' r) 0 0 A := z_met (z_wr ok n) ok hmi h hal hva hvw
end ZMAIN
