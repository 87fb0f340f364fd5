set_option maxHeartbeats 4000000 in
set_option maxRecDepth 100000 in
theorem y_grow1 {fk : Nat → List Nat} {M : Nat → z_M} {I : z_I} {pc pc' : Nat} {L L' : z_L} {st st' : List z_V} {h h' : y_H} (hstep : y_step fk M I pc L st h = some (.inl (pc', L', st', h'))) : h.length ≤ h'.length ∧ y_sum h ≤ y_sum h' := by
  obtain ⟨ins, len, a, b, t, q, c0, d⟩ := I
  have push : ∀ e : y_E, h.length ≤ (h ++ [e]).length ∧ y_sum h ≤ y_sum (h ++ [e]) := fun e => ⟨by rw [List.length_append]; omega, by rw [y_sum_push]; omega⟩
  cases ins
  case putfield i =>
    simp only [y_step] at hstep
    split at hstep
    · rename_i v9 g9 o9 r9
      split at hstep
      · rename_i ci fs ho
        have fin : ∀ u, h.length ≤ (h.set o9 (Sum.inl (ci, fs.set b u))).length ∧ y_sum h ≤ y_sum (h.set o9 (Sum.inl (ci, fs.set b u))) := fun u => ⟨by rw [List.length_set]; omega, by rw [y_sum_set ho (by show (fs.set b u).length = fs.length; rw [List.length_set])]; omega⟩
        (repeat' split at hstep) <;> first | (cases hstep; done) | (cases hstep; exact fin _)
      · cases hstep
    · cases hstep
  case aastore =>
    simp only [y_step] at hstep
    split at hstep
    · split at hstep
      · rename_i lst ci fs ho hv
        split at hstep
        · cases hstep
          exact ⟨by rw [List.length_set]; omega, by rw [y_sum_set ho (by show (lst.set _ _).length = lst.length; rw [List.length_set])]; omega⟩
        · cases hstep
      · cases hstep
    · cases hstep
  case if_icmp cnd off =>
    cases cnd <;> (simp only [y_step] at hstep; (repeat' split at hstep) <;> first | (cases hstep; done) | (cases hstep; exact ⟨Nat.le_refl _, Nat.le_refl _⟩))
  all_goals (simp only [y_step] at hstep; first | (cases hstep; done) | (cases hstep; exact ⟨Nat.le_refl _, Nat.le_refl _⟩) | (cases hstep; exact push _) | ((repeat' split at hstep) <;> first | (cases hstep; done) | (cases hstep; exact ⟨Nat.le_refl _, Nat.le_refl _⟩) | (cases hstep; exact push _)))
theorem y_grow {fk : Nat → List Nat} {M : Nat → z_M} {C : Nat → Nat → Option z_I} : ∀ (n mi : Nat) (f : y_F) (h' : y_H), y_run fk M C n mi f = some h' → f.2.2.2.length ≤ h'.length ∧ y_sum f.2.2.2 ≤ y_sum h' := by
  intro n
  induction n with
  | zero => intro mi f h' hh; cases hh
  | succ n ih =>
    intro mi f h' hh
    obtain ⟨pc, L, st, h⟩ := f
    rw [y_run] at hh
    dsimp only
    cases hC : C mi pc with
    | none => rw [hC] at hh; cases hh
    | some I =>
      rw [hC] at hh
      dsimp only at hh
      cases hs : y_step fk M I pc L st h with
      | none => rw [hs] at hh; cases hh
      | some z =>
        rw [hs] at hh
        rcases z with f1 | rv | ⟨mj, as, rest⟩
        · dsimp only at hh
          obtain ⟨pc', L', st', h1⟩ := f1
          have g1 := y_grow1 hs
          have g2 := ih mi _ h' hh
          dsimp only at g2
          omega
        · cases hh
          exact ⟨Nat.le_refl _, Nat.le_refl _⟩
        · dsimp only at hh
          cases hr : y_run fk M C n mj (0, z_entry (M mj).2.2.1 as, [], h) with
          | none => rw [hr] at hh; cases hh
          | some h1 =>
            rw [hr] at hh
            have g1 := ih mj _ h1 hr
            have g2 := ih mi _ h' hh
            dsimp only at g1 g2
            omega
def y_rm (mt : z_M) (mc ms : Nat) : Room := { frames := mt.2.2.2.2.2.2.1, cells := mc, slots := ms, locals := mt.2.2.2.2.2.2.2 }
def y_Pc (b : Nat) (cA : Nat → ClassId) (D : va_G) (cl : List vw_C) (tys : List (ClassId × FieldType)) (jn : String) (as : List z_V) (h : y_H) : Array Value → State → Prop :=
  fun v U => v = (as.map (z_v (y_ad b))).toArray ∧ U.heap.size = b + h.length ∧ va_P D cl (y_ws b cA h) U.heap ∧ va_K D cl tys U ∧ va_AO jn U
def y_Qc (b : Nat) (cA : Nat → ClassId) (D : va_G) (cl : List vw_C) (h : y_H) : Array Value → State → Outcome → State → Prop :=
  fun _ st o t => o = .returned none ∧ t.heap.size = b + h.length ∧ va_P D cl (y_ws b cA h) t.heap ∧ va_F (fun q => b ≤ q) st t
def y_OK (fk : Nat → List Nat) (cA : Nat → ClassId) (cl : List vw_C) (tys : List (ClassId × FieldType)) (Ts Ws : List Jvm.Cond) (jn : String) (nM : Nat) (M : Nat → z_M) (C : Nat → Nat → Option z_I) : Prop :=
  (∀ w ∈ Ws, goodWord w = true → w ∈ Ts) ∧ (∀ w ∈ Ts, goodWord w = true) ∧ (tys[0]? = some (cA 0, .int) ∧ tys[1]? = some (cA 1, .long) ∧ tys[2]? = some (cA 2, .object jn)) ∧ z_CL cl fk Ts ∧
  (∀ ci C T N, cl[ci]? = some (C, T, N) → (∀ j, j < N → (parseFieldDescriptor (T j).2.2.1).map defaultValue = some (if (fk ci).getD j 0 = 2 then .null else .int 0)) ∧ Jvm.Cond.instantiable C N ∈ Ts ∧ Jvm.Cond.initialized C ∈ Ts) ∧
  (Jvm.Cond.arrayClass .int ∈ Ts ∧ Jvm.Cond.arrayClass .long ∈ Ts) ∧ (Jvm.Cond.instanceMethod Lib.objectInit ∈ Ts ∧ Jvm.Cond.code Lib.objectInit ⟨#[0xb1]⟩ 1 none ∈ Ts) ∧
  (∀ mi, mi < nM → y_MO Ts (M mi)) ∧ (∀ mi pc I, mi < nM → C mi pc = some I → y_chk cl fk nM M Ws jn (M mi).1.cls (M mi).2.1 (M mi).2.2.2.2.2.2.1 (M mi).2.2.2.2.2.2.2 pc I = true)
def y_WR (l : Launch) (fk : Nat → List Nat) (b : Nat) (cA : Nat → ClassId) (D : va_G) (cl : List vw_C) (tys : List (ClassId × FieldType)) (Ts : List Jvm.Cond) (jn : String) (nM : Nat) (M : Nat → z_M) (C : Nat → Nat → Option z_I) (n : Nat) : Prop :=
  ∀ (p : Program) (e : Env) (s : State) (m : MethodId) (args : Array Value) (below : List Frame) (meth : Method) (c : Code) (mi mc ms : Nat), mi < nM → p.tables.exec = Jvm.exec → c.code = (M mi).2.1 → c.maxLocals = (M mi).2.2.1 → meth.sig.returnType = none → meth.locks = false → s.vm.findClass (M mi).1.cls = some m.cls → meth.name = "<init>" → (∀ w ∈ Ts, w.before args s = true) → va_K D cl tys s → va_AO jn s →
    ∀ (f : y_F) (h' : y_H), y_run fk M C n mi f = some h' → ∀ (ls : Array Slot) (H : Heap) (locs : List Loc) (cells slots : Nat), z_hl (y_ad b) ls (M mi).2.2.1 f.2.1 → H.size = b + f.2.2.2.length → va_P D cl (y_ws b cA f.2.2.2) H → va_S (fun q => b ≤ q) s.heap H locs →
      cells + (h'.length - f.2.2.2.length) = mc → slots + (y_sum h' - y_sum f.2.2.2) = ms →
      W p l e (y_rm (M mi) mc ms) s m args below meth c H locs cells slots (MQ below (y_Qc b cA D cl h') args s mc ms (fun q => b ≤ q)) (F0 m f.1 ls (f.2.2.1.map (z_v (y_ad b))))
section YM
variable {l : Launch} {fk : Nat → List Nat} {b : Nat} {cA : Nat → ClassId} {D : va_G} {cl : List vw_C} {tys : List (ClassId × FieldType)} {Ts Ws : List Jvm.Cond} {jn : String} {nM : Nat} {M : Nat → z_M} {C : Nat → Nat → Option z_I}
theorem y_met {n : Nat} (IH : y_WR l fk b cA D cl tys Ts jn nM M C n) (ok : y_OK fk cA cl tys Ts Ws jn nM M C) {mi : Nat} (hmi : mi < nM) {as : List z_V} {h h' : y_H}
    (hh : y_run fk M C n mi (0, z_entry (M mi).2.2.1 as, [], h) = some h') (hal : (z_args as).length ≤ (M mi).2.2.1) :
    Met l (M mi).1 (z_wm Ts (M mi)) (y_rm (M mi) (h'.length - h.length) (y_sum h' - y_sum h)) (y_Pc b cA D cl tys jn as h) (y_Qc b cA D cl h') (h'.length - h.length) (y_sum h' - y_sum h) (fun q => b ≤ q) := by
  obtain ⟨o1, o2, o3, o4, o5, o6, o7, o8, o9⟩ := ok
  obtain ⟨m1, m2, m3, m4, m5, m6, m7, m8⟩ := o8 mi hmi
  refine Met.ofW (cc := (M mi).2.1) (maxL := (M mi).2.2.1) (ret := (M mi).2.2.2.1) m1 rfl ?_
  intro p e s m args below meth c s₁ B hml hv
  obtain ⟨rfl, hsz, hP, hK, hAO⟩ := hv
  have hts := atoms_spec (ws := z_wm Ts (M mi)) B.pre
  have hnm : meth.name = "<init>" := (name_of_methodNamed B.named B.method).1.trans m7
  rw [lg_entry_eq]
  exact IH p e s m _ below meth c mi _ _ hmi B.exec B.bytes hml (B.returns.trans m8) B.notSynchronized (findClass_of_methodNamed B.named) hnm (fun w hw => hts w (List.mem_cons_of_mem _ hw)) hK hAO (0, z_entry (M mi).2.2.1 as, [], h) h' hh _ _ [] 0 0 (z_entry_hl (y_ad b) as hal) hsz hP va_S.rf (Nat.zero_add _) (Nat.zero_add _)
set_option maxHeartbeats 4000000 in
set_option maxRecDepth 100000 in
theorem y_wr (ok : y_OK fk cA cl tys Ts Ws jn nM M C) : ∀ n, y_WR l fk b cA D cl tys Ts jn nM M C n := by
  intro n
  induction n with
  | zero =>
    intro p e s m args below meth c mi mc ms hmi hx hb hml hr hlk hown hnm hts hK hAO f h' hh
    cases hh
  | succ n ih =>
    intro p e s m args below meth c mi mc ms hmi hx hb hml hr hlk hown hnm hts hK hAO f h' hh ls H locs cells slots hl hsz hP hS hmc hms
    obtain ⟨pc, L, st, h⟩ := f
    have ok' := ok
    obtain ⟨o1, o2, ⟨o3a, o3b, o3c⟩, o4, o5, o6, o7, o8, o9⟩ := ok'
    dsimp only at hl hsz hP hmc hms
    rw [y_run] at hh
    cases hC : C mi pc with
    | none => rw [hC] at hh; cases hh
    | some I =>
      rw [hC] at hh
      dsimp only at hh
      have hchk := o9 mi pc I hmi hC
      cases hst0 : y_step fk M I pc L st h with
      | none => rw [hst0] at hh; cases hh
      | some z =>
        rw [hst0] at hh
        rcases z with f1 | rv | ⟨mj, as, rest⟩
        · dsimp only at hh
          obtain ⟨pc', L', st', h1⟩ := f1
          have g1 := y_grow1 hst0
          have g2 := y_grow n mi _ h' hh
          dsimp only at g2
          exact y_next (R := y_rm (M mi) mc ms) hx hb hown hnm hts o1 hK hAO o3a o3b o3c o4 o5 o6 o7 hml hchk hst0 hl hsz hP hS (show cells + (h1.length - h.length) ≤ mc by omega) (show slots + (y_sum h1 - y_sum h) ≤ ms by omega)
            (fun ls' H' locs' b1 b2 b3 b4 => ih p e s m args below meth c mi mc ms hmi hx hb hml hr hlk hown hnm hts hK hAO (pc', L', st', h1) h' hh ls' H' locs' _ _ b1 b2 b3 b4 (by show cells + (h1.length - h.length) + (h'.length - h1.length) = mc; omega) (by show slots + (y_sum h1 - y_sum h) + (y_sum h' - y_sum h1) = ms; omega))
        · cases hh
          -- the end
          have e1 : cells = mc := by omega
          have e2 : slots = ms := by omega
          subst e1; subst e2
          obtain ⟨ins, len, a, b1, t, q, c0, d⟩ := I
          unfold y_chk at hchk
          rw [Bool.and_eq_true, decide_eq_true_eq] at hchk
          obtain ⟨hd, hchk⟩ := hchk
          dsimp only at hd hchk
          have hret : ins = .return_ ∧ st = [] := by
            cases ins
            case return_ =>
              simp only [y_step] at hst0
              split at hst0
              · exact ⟨rfl, rfl⟩
              · cases hst0
            case if_icmp cnd off =>
              cases cnd <;> (simp only [y_step] at hst0; (repeat' split at hst0) <;> cases hst0)
            all_goals (simp only [y_step] at hst0; first | (cases hst0; done) | ((repeat' split at hst0) <;> cases hst0))
          obtain ⟨rfl, rfl⟩ := hret
          simp only [decide_eq_true_eq] at hchk
          subst hchk
          exact W.vret hx hb hr (fun t ht _ => ⟨rfl, by rw [ht]; exact hsz, by rw [ht]; exact hP, hS.F ht⟩) hS.2.2 hd hlk
        · dsimp only at hh
          cases hrun : y_run fk M C n mj (0, z_entry (M mj).2.2.1 as, [], h) with
          | none => rw [hrun] at hh; cases hh
          | some h1 =>
            rw [hrun] at hh
            dsimp only at hh
            have g1 := y_grow n mj _ h1 hrun
            have g2 := y_grow n mi _ h' hh
            dsimp only at g1 g2
            obtain ⟨ins, len, a, b1, t, q, c0, d⟩ := I
            unfold y_chk at hchk
            rw [Bool.and_eq_true, decide_eq_true_eq] at hchk
            obtain ⟨hd, hchk⟩ := hchk
            dsimp only at hd hchk
            cases ins
            case invokespecial i =>
              simp only [y_step] at hst0
              rw [Bool.and_eq_true, decide_eq_true_eq] at hchk
              obtain ⟨rfl, h2⟩ := hchk
              split at hst0
              · split at hst0
                · rename_i hg
                  split at hst0
                  · rename_i x as' he
                    cases hst0
                    obtain ⟨k1, k2, k3⟩ := hg
                    simp only [Bool.and_eq_true, decide_eq_true_eq] at h2
                    obtain ⟨h2, h3⟩ := h2
                    unfold z_cr at h3
                    simp only [Bool.and_eq_true, decide_eq_true_eq] at h3
                    obtain ⟨⟨r1, r2⟩, r3⟩ := h3
                    obtain ⟨m1, m2, m3, m4, m5, m6, m7, m8⟩ := o8 mj r1
                    have hstk : st = ((st.take (M mj).2.2.2.2.1).reverse).reverse ++ st.drop (M mj).2.2.2.2.1 := by rw [List.reverse_reverse, List.take_append_drop]
                    have hlen : ((st.take (M mj).2.2.2.2.1).reverse).length = (M mj).2.2.2.2.1 := by rw [List.length_reverse, List.length_take]; omega
                    rw [he] at hstk hlen hrun k3
                    have hpar : ∀ sig, parseMethodDescriptor (M mj).1.desc = some sig → as'.length = sig.parameters.length := by
                      intro sig hsig
                      have := m5 sig hsig
                      simp only [List.length_cons] at hlen
                      omega
                    have hstack : (st.map (z_v (y_ad b))) = (as'.map (z_v (y_ad b))).reverse ++ Value.ref (y_ad b x) :: (st.drop (M mj).2.2.2.2.1).map (z_v (y_ad b)) := by
                      conv => lhs; rw [hstk]
                      simp [z_v]
                    have hMet := y_met ih ok r1 hrun k3
                    have blind : FrameBlind (y_Pc b cA D cl tys jn ((.inr (.inr (some x))) :: as') h) := by
                      intro a U g mk hq
                      obtain ⟨q0, q1, qP, qK, qA⟩ := hq
                      exact ⟨q0, q1, qP, va_K.moved (u := U) (U := U.calling g mk a) (Vm.Alike.refl U.vm) qK, va_AO.moved (u := U) (U := U.calling g mk a) (Vm.Alike.refl U.vm) qA⟩
                    have pre : ∀ U : State, U.heap = H → s.WarmedH U.vm → y_Pc b cA D cl tys jn ((.inr (.inr (some x))) :: as') h (Value.ref (y_ad b x) :: as'.map (z_v (y_ad b))).toArray U := fun U hU hW =>
                      ⟨rfl, by rw [hU]; exact hsz, by rw [hU]; exact hP, va_K.moved hW.alike hK, va_AO.moved hW.alike hAO⟩
                    have hrunI := va_runI (p := p) (l := l) (e := e) (R := y_rm (M mi) mc ms) (s := s) (m := m) (args := args) (below := below) (meth := meth) (c := c) (H := H) (locs := locs) (cells := cells) (slots := slots) (cc := (M mi).2.1) (nL := (M mi).2.2.1) (Ts := Ts) (own := (M mi).1.cls) (b := y_ad b x) (As := as'.map (z_v (y_ad b))) (rest := (st.drop (M mj).2.2.2.2.1).map (z_v (y_ad b))) (g := F0 m pc ls (st.map (z_v (y_ad b)))) (index := i) (bytes := (M mj).2.1) (maxL := (M mj).2.2.1) (n := as'.length)
                      ⟨hx, hb, hml, hown, hts⟩ hMet
                      ⟨⟨rfl, rfl, r2, r3, fun w hw a' U hW => by
                          have hwT : w ∈ Ts := by
                            rcases List.mem_cons.mp hw with rfl | hw
                            · exact m3
                            · exact hw
                          exact word_at hW (good_of_word (o2 w hwT)) (hts w hwT), by rw [← m8]; exact List.mem_cons_self, by rw [← m8]; exact hts _ m3, hts _ m4, m2, hpar, hts _ (o1 _ (List.mem_of_getElem? h2) rfl)⟩, m7, hts _ m6⟩
                      ⟨blind, pre⟩ rfl (by simp) hl.1 hstack (lv_room (by rw [z_cat_map]; exact k2)) hd
                      ⟨show cells + (h1.length - h.length) ≤ mc by omega, show slots + (y_sum h1 - y_sum h) ≤ ms by omega⟩
                    intro T hT X
                    obtain ⟨v, st₀, t, T', Lx, t0, X', hLx, e1, e2, hq, stp⟩ := hrunI T hT X
                    obtain ⟨q1, q2, q3, q4⟩ := hq
                    cases q1
                    have hS' : va_S (fun q => b ≤ q) s.heap T'.heap (locs ++ Lx) := by
                      refine ⟨Nat.le_trans hS.1 (by rw [e1, ← t0]; exact q4.1), fun q g3 g4 => ?_, fun x9 hx9 => ?_⟩
                      · rw [e1, q4.2 q (by rw [t0]; exact Nat.lt_of_lt_of_le g3 hS.1) g4, t0]
                        exact hS.2.1 q g3 g4
                      · rcases List.mem_append.mp hx9 with h9 | h9
                        · exact hS.2.2 x9 h9
                        · exact hLx x9 h9
                    obtain ⟨t2, a1, b9⟩ := ih p e s m args below meth c mi mc ms hmi hx hb hml hr hlk hown hnm hts hK hAO (pc + 3, L, st.drop (M mj).2.2.2.2.1, h1) h' hh ls T'.heap (locs ++ Lx) (cells + (h1.length - h.length)) (slots + (y_sum h1 - y_sum h)) hl (by rw [e1]; exact q2) (by rw [e1]; exact q3) hS' (by show _ + (h'.length - h1.length) = mc; omega) (by show _ + (y_sum h' - y_sum h1) = ms; omega) T' rfl X'
                    exact ⟨t2, stp t2 a1, b9⟩
                  · cases hst0
                · cases hst0
              · (repeat' split at hst0) <;> cases hst0
            case if_icmp cnd off =>
              cases cnd <;> (simp only [y_step] at hst0; (repeat' split at hst0) <;> cases hst0)
            all_goals (simp only [y_step] at hst0; first | (cases hst0; done) | ((repeat' split at hst0) <;> cases hst0))
theorem y_main (ok : y_OK fk cA cl tys Ts Ws jn nM M C) {n mi : Nat} (hmi : mi < nM) {as : List z_V} {h h' : y_H}
    (hh : y_run fk M C n mi (0, z_entry (M mi).2.2.1 as, [], h) = some h') (hal : (z_args as).length ≤ (M mi).2.2.1) :
    Met l (M mi).1 (z_wm Ts (M mi)) (y_rm (M mi) (h'.length - h.length) (y_sum h' - y_sum h)) (y_Pc b cA D cl tys jn as h) (y_Qc b cA D cl h') (h'.length - h.length) (y_sum h' - y_sum h) (fun q => b ≤ q) := y_met (y_wr ok n) ok hmi hh hal
end YM
