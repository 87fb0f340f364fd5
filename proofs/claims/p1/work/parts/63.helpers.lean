/-! the law's helpers -/
def h_A (b o : Nat) : Nat → Prop := fun q => (b ≤ q ∧ q < b + 60) ∨ q = o
def h_out (cA : Nat → ClassId) (x : Int64) : Cell := vp_cell (cA 1) (1, .inr (.inl (fun _ => x)))
def h_B (b n0 o : Nat) (cA : Nat → ClassId) (D : va_G) (tys : List (ClassId × FieldType)) (w : z_W) (x : Int64) (U : State) : Prop := va_P D zcl (z_ws sC zfk (adC b) cA w) U.heap ∧ va_K D zcl tys U ∧ (∀ x ∈ zNs, va_Nw x U) ∧ t_X n0 U U.heap ∧ U.heap[o]? = some (h_out cA x)
def h_Pc (vs : List Value) (b n0 o : Nat) (cA : Nat → ClassId) (D : va_G) (tys : List (ClassId × FieldType)) (w : z_W) (x : Int64) : Array Value → State → Prop := fun v U => v = vs.toArray ∧ h_B b n0 o cA D tys w x U
theorem h_Pc.blind {vs : List Value} {b n0 o : Nat} {cA : Nat → ClassId} {D : va_G} {tys : List (ClassId × FieldType)} {w : z_W} {x : Int64} : FrameBlind (h_Pc vs b n0 o cA D tys w x) := by
  intro a U g mk hq
  obtain ⟨q0, qP, qK, qN, hX, hO⟩ := hq
  exact ⟨q0, qP, va_K.moved (u := U) (U := U.calling g mk a) (Vm.Alike.refl U.vm) qK, fun x hx1 => va_Nw.same (u := U) (U := U.calling g mk a) (zNs_on x hx1) rfl (qN x hx1), hX.call, hO⟩
def h_Qn (b o : Nat) (cA : Nat → ClassId) (D : va_G) (w' : z_W) (x' : Int64) : Array Value → State → Outcome → State → Prop := fun _ st oc t => oc = .returned (some (.int 0)) ∧ va_P D zcl (z_ws sC zfk (adC b) cA w') t.heap ∧ t.heap[o]? = some (h_out cA x') ∧ va_F (h_A b o) st t
def h_Qt (k : Int32) : Array Value → State → Outcome → State → Prop := fun _ st oc t => oc = .returned (some (.int k)) ∧ va_F (fun _ => False) st t
section HLP
variable {p : Program} {l : Launch} {e : Env} {R : Room} {s : State} {m : MethodId} {args : Array Value} {below : List Frame} {meth : Method} {c : Code} {H : Heap} {locs : List Loc} {cells slots : Nat} {Q : State → Prop}
variable {b n0 o : Nat} {cA : Nat → ClassId} {D : va_G} {tys : List (ClassId × FieldType)} {cc : ByteArray}
theorem c_len {w : z_W} : (z_ws sC zfk (adC b) cA w).length = 60 := by
  unfold z_ws
  rw [List.length_map]
  exact sCn_len
theorem h_store (hx : p.tables.exec = Jvm.exec) (hb : c.code = cc) (hK : va_K D zcl tys s) (h2 : tys[1]? = some (cA 1, .long)) (ho : ¬ (b ≤ o ∧ o < b + 60)) {w : z_W} {x y : Int64} (hP : va_P D zcl (z_ws sC zfk (adC b) cA w) H) (hO : H[o]? = some (h_out cA x)) (hS : va_S (h_A b o) s.heap H locs) {pc : Nat} {ls : Array Slot} {rest : List Value} (hd : decode cc pc = .ok (.lastore, 1))
    (kk : ∀ (H1 : Heap) (locs1 : List Loc), va_P D zcl (z_ws sC zfk (adC b) cA w) H1 → H1[o]? = some (h_out cA y) → va_S (h_A b o) s.heap H1 locs1 → W p l e R s m args below meth c H1 locs1 cells slots Q (F0 m (pc + 1) ls rest)) :
    W p l e R s m args below meth c H locs cells slots Q (F0 m pc ls (.long y :: .int 0 :: .ref o :: rest)) := by
  have hl := c_len (b := b) (cA := cA) (w := w)
  have hPw : va_P D zcl (z_ws sC zfk (adC b) cA w ++ [(o, .inl (cA 1, 1, .inr (.inl (fun _ => x))))]) H := va_P_app hP (by
    intro k q hq
    cases k with
    | zero => cases hq; exact hO
    | succ k => cases hq)
  have hDw : va_D (h_A b o) (z_ws sC zfk (adC b) cA w ++ [(o, .inl (cA 1, 1, .inr (.inl (fun _ => x))))]) := by
    have hat : ∀ (k : Nat) (q : Nat × va_E), (z_ws sC zfk (adC b) cA w ++ [(o, .inl (cA 1, 1, .inr (.inl (fun _ => x))))])[k]? = some q → (k < 60 ∧ q.1 = b + k) ∨ (k = 60 ∧ q.1 = o) := by
      intro k q hq
      rw [List.getElem?_append] at hq
      split at hq
      · exact Or.inl (c_at hq)
      · rename_i hk
        rw [hl] at hk hq
        cases h9 : k - 60 with
        | zero =>
          rw [h9] at hq
          cases hq
          exact Or.inr ⟨by omega, rfl⟩
        | succ j =>
          rw [h9] at hq
          cases hq
    refine ⟨fun i j p9 q9 hp hq hpq => ?_, fun k q9 hq => ?_⟩
    · rcases hat i p9 hp with ⟨a1, a2⟩ | ⟨a1, a2⟩ <;> rcases hat j q9 hq with ⟨a3, a4⟩ | ⟨a3, a4⟩
      · omega
      · exact absurd ⟨by omega, by omega⟩ ho
      · exact absurd ⟨by omega, by omega⟩ ho
      · omega
    · rcases hat k q9 hq with ⟨a1, a2⟩ | ⟨a1, a2⟩
      · exact Or.inl ⟨by omega, by omega⟩
      · exact Or.inr a2
  have h60 : (z_ws sC zfk (adC b) cA w ++ [(o, .inl (cA 1, 1, .inr (.inl (fun _ => x))))])[60]? = some (o, .inl (cA 1, 1, .inr (.inl (fun _ => x)))) := by
    rw [List.getElem?_append_right (by omega), hl]
    rfl
  refine va_last hx hb hK hPw hDw hS 60 1 h60 h2 (z_in_vp (by decide)) hd (fun H1 locs1 k1 _ k3 => kk H1 locs1 ?_ ?_ k3)
  · rw [List.set_append_right _ _ (by omega)] at k1
    exact va_P_left k1
  · have h9 := k1 60 (o, .inl (cA 1, 1, .inr (.inl (vp_updL (fun _ => x) (0 : Int32).toNatClampNeg y)))) (by
      rw [List.getElem?_set_self]
      rw [List.length_append, hl]
      show 60 < 60 + 1
      omega)
    have h10 : H1[o]? = some (vp_cell (cA 1) (1, .inr (.inl (vp_updL (fun _ => x) (0 : Int32).toNatClampNeg y)))) := h9
    rw [h10]
    show some (vp_cell _ _) = some (vp_cell _ _)
    refine congrArg some ?_
    rw [vp_cell_l, vp_cell_l]
    refine arrV_cg _ _ _ _ (fun j hj => ?_)
    have : j = 0 := by omega
    subst this
    rfl
def c_A (b : Nat) : Nat → Prop := fun q => b ≤ q ∧ q < b + 60
theorem h_S1 {H1 : Heap} {locs1 : List Loc} {st₀ t : State} (h0 : st₀.heap = s.heap) (hF : va_F (c_A b) st₀ t) (ht : t.heap = H1) (hl1 : ∀ x ∈ locs1, x ∈ ([] : List Loc) ∨ c_A b x.base) : va_S (h_A b o) s.heap H1 locs1 := by
  refine ⟨by rw [← h0, ← ht]; exact hF.1, fun q g1 g2 => ?_, fun x hx => ?_⟩
  · rw [← ht, hF.2 q (by rw [h0]; exact g1) (fun h => g2 (Or.inl h)), h0]
  · rcases hl1 x hx with h | h
    · cases h
    · exact Or.inl h
theorem h_D (cA : Nat → ClassId) : ∀ w, va_D (c_A b) (z_ws sC zfk (adC b) cA w) := c_D (fun q h1 h2 => ⟨h1, h2⟩)
theorem zvs_i (L : List Int32) : z_vs sC (zR 0 0 :: L.map zI) := by
  intro v hv
  rcases List.mem_cons.mp hv with rfl | hv
  · exact zR00_v _ List.mem_cons_self
  · obtain ⟨i, -, rfl⟩ := List.mem_map.mp hv
    trivial
end HLP

section HLQ
variable {l : Launch} {b n0 o : Nat} {cA : Nat → ClassId} {D : va_G} {tys : List (ClassId × FieldType)}
def yL_request : MethodName := ⟨"PrintHouseLaw", "request", "(LPrintHouse;[J)I"⟩
def wL_request : List Jvm.Cond := Jvm.Cond.codeWith yL_request method_3_code 3 (some .int) [(0, 8, 11, 13)] :: zTs
set_option maxRecDepth 100000 in
theorem hn_request (h1 : tys[0]? = some (cA 0, .int)) (h2 : tys[1]? = some (cA 1, .long)) (h3 : tys[2]? = some (cA 2, .object "PrintHouse$Job")) (ho : ¬ (b ≤ o ∧ o < b + 60)) {w w' : z_W} {x : Int64} {r : Int32} {n : Nat} 
    (hvw : z_vw sC w) (hrun : z_run sC zM zC n kP_request (0, z_entry (zM kP_request).2.2.1 (zR 0 0 :: []), [], w) = some (w', some (zI r))) :
    Met l yL_request wL_request { frames := 8, cells := 0, slots := 0, locals := 240 } (h_Pc [.ref (adC b (0, 0)), .ref o] b n0 o cA D tys w x) (h_Qn b o cA D w' r.toInt64) 0 0 (h_A b o) := by
  refine va_MetW (cc := method_3_code) (maxL := 3) (ret := some .int) (hh := [(0, 8, 11, 13)]) (by decide) rfl ?_
  intro p e s m args below meth c s₁ B hml hv
  obtain ⟨rfl, hP, hK, hN, hX, hO⟩ := hv
  have hx := B.exec
  have hb := B.bytes
  have hr := B.returns
  have hts0 := atoms_spec (ws := wL_request) B.pre
  have hts : ∀ w ∈ zTs, w.before ([.ref (adC b (0, 0)), .ref o] : List Value).toArray s = true := fun w hw => hts0 w (List.mem_cons_of_mem _ hw)
  have hown : s.vm.findClass "PrintHouseLaw" = some m.cls := findClass_of_methodNamed B.named
  have hlocks := B.notSynchronized
  have hl := lv_entry ([.ref (adC b (0, 0)), .ref o]) (n := 3) (Nat.le_of_ble_eq_true rfl)
  rw [lg_entry_eq]
  generalize (lg_sl ([.ref (adC b (0, 0)), .ref o]) ++ List.replicate (3 - (lg_sl ([.ref (adC b (0, 0)), .ref o])).length) Slot.unset).toArray = ls at hl ⊢
  have hl : lv_has ls 3 [(0, .ref (adC b (0, 0))), (1, .ref o)] := hl
  refine lv_aload_n hx hb (show decode method_3_code 0 = .ok (.aload_n 1, 1) by decide +kernel) rfl (lv_at hl 1 rfl) ?_
  refine lv_iconst (v := 0) hx hb (show decode method_3_code 1 = .ok (.iconst 0, 1) by decide +kernel) (by decide) ?_
  refine lv_aload_n hx hb (show decode method_3_code 2 = .ok (.aload_n 0, 1) by decide +kernel) rfl (lv_at hl 0 rfl) ?_
  have ok := z_okC (ad := adC b) (A := c_A b) h1 h2 h3 (h_D cA)
  have hcall := g_call (p := p) (l := l) (e := e) (R := { frames := 8, cells := 0, slots := 0, locals := 240 }) (m := m) (args := ([.ref (adC b (0, 0)), .ref o] : List Value).toArray) (below := below) (meth := meth) (c := c) (H := s.heap) (locs := []) (cells := 0) (slots := 0) (own := "PrintHouseLaw") (D := D) (nL := 3) (index := 7) (pc := 3) (ls := ls) (rest := [.int 0, .ref o]) (as' := []) (g := 0) (o := 0) ok (mi := kP_request) (by decide) hrun (by show 1 ≤ _; decide) (zvs_i []) hvw rfl (by decide) rfl hx hb hml hown hts hN hK (by decide) (by decide) hP (zTs_in _ (by decide +kernel) rfl) hl.1 (Nat.le_of_ble_eq_true rfl) (show decode method_3_code 3 = .ok (.invokevirtual 7, 3) by decide +kernel) ⟨Nat.le_refl _, Nat.le_refl _⟩
  refine r_W hcall (fun v st₀ t H1 locs1 h0 hq ht hlo => ?_)
  obtain ⟨q1, q2, q3⟩ := hq
  cases q1
  have hS1 := h_S1 (b := b) (o := o) (s := s) h0 q3 ht hlo
  have hO1 : H1[o]? = some (h_out cA x) := by
    rw [← ht, q3.2 o (by rw [h0]; exact (Array.getElem?_eq_some_iff.mp hO).1) ho, h0]
    exact hO
  rw [ht] at q2
  refine lv_i2l hx hb (show decode method_3_code 6 = .ok (.i2l, 1) by decide +kernel) rfl ?_
  refine h_store hx hb hK h2 ho q2 hO1 hS1 (show decode method_3_code 7 = .ok (.lastore, 1) by decide +kernel) (fun H2 locs2 p1 p2 p3 => ?_)
  refine lv_goto (tgt := 14) hx hb (show decode method_3_code 8 = .ok (.goto 6, 3) by decide +kernel) rfl ?_
  refine lv_iconst (v := 0) hx hb (show decode method_3_code 14 = .ok (.iconst 0, 1) by decide +kernel) (by decide) ?_
  exact W.iret hx hb hr (fun t2 ht2 _ => ⟨rfl, by rw [ht2]; exact p1, by rw [ht2]; exact p2, p3.F ht2⟩) p3.2.2 (show decode method_3_code 15 = .ok (.ireturn, 1) by decide +kernel) hlocks

set_option maxRecDepth 100000 in
theorem ht1_request {w : z_W} {x : Int64}  {rm : Room} (hrc : rm.cells = 1) (hrs : rm.slots = 6) (hrf : rm.frames ≤ 7) (hrl : rm.locals ≤ 200) (hM : t_Met l (zM kP_request).1 (z_wm zTs (zM kP_request)) rm (x_Pc b cA D tys n0 (zR 0 0 :: []) w) "java/lang/IllegalStateException") :
    Met l yL_request wL_request { frames := 8, cells := 1, slots := 6, locals := 240 } (h_Pc [.ref (adC b (0, 0)), .ref o] b n0 o cA D tys w x) (h_Qt 1) 1 6 (fun _ => False) := by
  refine va_MetW (cc := method_3_code) (maxL := 3) (ret := some .int) (hh := [(0, 8, 11, 13)]) (by decide) rfl ?_
  intro p e s m args below meth c s₁ B hml hv
  obtain ⟨rfl, hP, hK, hN, hX, hO⟩ := hv
  have hx := B.exec
  have hb := B.bytes
  have hr := B.returns
  have hts0 := atoms_spec (ws := wL_request) B.pre
  have hts : ∀ w ∈ zTs, w.before ([.ref (adC b (0, 0)), .ref o] : List Value).toArray s = true := fun w hw => hts0 w (List.mem_cons_of_mem _ hw)
  have hown : s.vm.findClass "PrintHouseLaw" = some m.cls := findClass_of_methodNamed B.named
  have hlocks := B.notSynchronized
  have hl := lv_entry ([.ref (adC b (0, 0)), .ref o]) (n := 3) (Nat.le_of_ble_eq_true rfl)
  rw [lg_entry_eq]
  generalize (lg_sl ([.ref (adC b (0, 0)), .ref o]) ++ List.replicate (3 - (lg_sl ([.ref (adC b (0, 0)), .ref o])).length) Slot.unset).toArray = ls at hl ⊢
  have hl : lv_has ls 3 [(0, .ref (adC b (0, 0))), (1, .ref o)] := hl
  refine lv_aload_n hx hb (show decode method_3_code 0 = .ok (.aload_n 1, 1) by decide +kernel) rfl (lv_at hl 1 rfl) ?_
  refine lv_iconst (v := 0) hx hb (show decode method_3_code 1 = .ok (.iconst 0, 1) by decide +kernel) (by decide) ?_
  refine lv_aload_n hx hb (show decode method_3_code 2 = .ok (.aload_n 0, 1) by decide +kernel) rfl (lv_at hl 0 rfl) ?_
  intro T hT X
  obtain ⟨cellB, c1, c2, c3⟩ := va_recv (a := adC b (0, 0)) (q0 := 0) (ci := 0) hK hP rfl rfl
  obtain ⟨m1, m2, m3, m4, m5, m6, m7⟩ := z_mo kP_request (by decide)
  obtain ⟨m8, m9, -⟩ := m7 (by decide)
  obtain ⟨q, ce, T', X', q1, q2, q3, q4, q5, st⟩ := t_call (b := adC b (0, 0)) (cellB := cellB) (own := "PrintHouseLaw") (C := "PrintHouse") (index := 7) (bytes := (zM kP_request).2.1) (maxL := (zM kP_request).2.2.1) (ret := (zM kP_request).2.2.2.1) (argsL := []) (rest := [.int 0, .ref o]) (g := F0 m 3 ls [.ref (adC b (0, 0)), .int 0, .ref o]) X hx hM x_Pc.blind hrc hrs (show rm.frames + 1 ≤ 8 by omega) (show 8 + ((zM kP_request).2.2.1 + 11) + rm.locals ≤ 240 from Nat.le_trans (Nat.add_le_add_left hrl _) (by decide)) (Nat.le_refl _) (Nat.le_refl _)
    (fun x hx a' U hW => by
      have hxT : x ∈ zTs := by
        rcases List.mem_cons.mp hx with rfl | h
        · exact m3
        · exact h
      exact word_at hW (good_of_word (zTs_good x hxT)) (hts x hxT))
    List.mem_cons_self hown (hts _ (zTs_in _ (by decide +kernel) rfl)) (hts _ m8) (hts _ m9) (hts _ m4) m2 (by rw [hT]; exact c1) c2 c3 rfl (by rw [hml]; exact hl.1)
    (by
      intro sig hsig
      have h8 := m5 sig hsig
      have h9 : (zM kP_request).2.2.2.2.1 = 1 := by decide
      rw [h9, if_neg (by decide)] at h8
      show 0 = _
      omega)
    rfl (lv_room (st := [.int 0, .ref o]) (Nat.le_of_ble_eq_true rfl)) (by rw [hb]; exact (show decode method_3_code 3 = .ok (.invokevirtual 7, 3) by decide +kernel))
    (fun U hU hW => ⟨⟨rfl, by rw [hU, hT]; exact hP, va_K.moved hW.alike hK, fun x hx1 => zNs_mv x hx1 s U hW (hN x hx1)⟩, hX.moved hW (fun _ _ => by rw [hU, hT])⟩)
  obtain ⟨m9', meth9, c9, hn9, hm9, hc9, -, -, htab, -, -, -⟩ := Cond.codeWith_spec (hts0 _ List.mem_cons_self)
  cases B.named.symm.trans hn9
  cases B.method.symm.trans hm9
  have hcc : c9 = c := Option.some.inj (hc9.symm.trans X.code)
  subst hcc
  obtain ⟨x0, hx0, e0⟩ := List.map_eq_singleton_iff.mp htab
  simp only [Prod.mk.injEq] at e0
  obtain ⟨e1, e2, e3, e4⟩ := e0
  obtain ⟨hend, hk0⟩ := X'.catches_of_link hown (x := x0) (by rw [e4]; decide) (by rw [e4]; exact hts (.classLink "PrintHouseLaw" 13 "java/lang/IllegalStateException") (zTs_in _ (by decide +kernel) rfl)) q3 (Vm.assignable_self _ _)
  obtain ⟨vm', XV, st2⟩ := X'.thenCaughtThrough q (g := F0 m 3 ls [.int 0, .ref o]) rfl (st _ (Steps.refl _)) q1 (by rw [q2]; rfl) hk0 [] x0 [] hx0 (fun y hy => by cases hy) (by show covers x0 3 = true; simp [covers, e1, e2]) hend
  rw [e3] at st2
  have K : W p l e { frames := 8, cells := 1, slots := 6, locals := 240 } s m ([.ref (adC b (0, 0)), .ref o] : List Value).toArray below meth c9 T'.heap [] 1 6 (MQ below (h_Qt 1) ([.ref (adC b (0, 0)), .ref o] : List Value).toArray s 1 6 (fun _ => False)) (F0 m 11 ls [.ref q]) := by
    refine lv_astore_n hx hb (show decode method_3_code 11 = .ok (.astore_n 2, 1) by decide +kernel) rfl hl (by decide) rfl (fun ls' hl' => ?_)
    refine lv_iconst (v := 1) hx hb (show decode method_3_code 12 = .ok (.iconst 1, 1) by decide +kernel) (by decide) ?_
    exact W.iret hx hb hr (fun t2 ht2 _ => ⟨rfl, by rw [ht2, ← hT]; exact q4, fun q9 h9 _ => by rw [ht2, ← hT]; exact q5 q9 (by rw [hT]; exact h9)⟩) (fun _ h => by cases h) (show decode method_3_code 13 = .ok (.ireturn, 1) by decide +kernel) hlocks
  obtain ⟨t2, a1, b1⟩ := K (T'.setVm vm') rfl XV
  exact ⟨t2, st2.trans a1, b1⟩

def yL_tick : MethodName := ⟨"PrintHouseLaw", "tick", "(LPrintHouse;[J)I"⟩
def wL_tick : List Jvm.Cond := Jvm.Cond.codeWith yL_tick method_4_code 3 (some .int) [(0, 8, 11, 13)] :: zTs
set_option maxRecDepth 100000 in
theorem hn_tick (h1 : tys[0]? = some (cA 0, .int)) (h2 : tys[1]? = some (cA 1, .long)) (h3 : tys[2]? = some (cA 2, .object "PrintHouse$Job")) (ho : ¬ (b ≤ o ∧ o < b + 60)) {w w' : z_W} {x : Int64} {r : Int32} {n : Nat} 
    (hvw : z_vw sC w) (hrun : z_run sC zM zC n kP_tick (0, z_entry (zM kP_tick).2.2.1 (zR 0 0 :: []), [], w) = some (w', some (zI r))) :
    Met l yL_tick wL_tick { frames := 8, cells := 0, slots := 0, locals := 240 } (h_Pc [.ref (adC b (0, 0)), .ref o] b n0 o cA D tys w x) (h_Qn b o cA D w' r.toInt64) 0 0 (h_A b o) := by
  refine va_MetW (cc := method_4_code) (maxL := 3) (ret := some .int) (hh := [(0, 8, 11, 13)]) (by decide) rfl ?_
  intro p e s m args below meth c s₁ B hml hv
  obtain ⟨rfl, hP, hK, hN, hX, hO⟩ := hv
  have hx := B.exec
  have hb := B.bytes
  have hr := B.returns
  have hts0 := atoms_spec (ws := wL_tick) B.pre
  have hts : ∀ w ∈ zTs, w.before ([.ref (adC b (0, 0)), .ref o] : List Value).toArray s = true := fun w hw => hts0 w (List.mem_cons_of_mem _ hw)
  have hown : s.vm.findClass "PrintHouseLaw" = some m.cls := findClass_of_methodNamed B.named
  have hlocks := B.notSynchronized
  have hl := lv_entry ([.ref (adC b (0, 0)), .ref o]) (n := 3) (Nat.le_of_ble_eq_true rfl)
  rw [lg_entry_eq]
  generalize (lg_sl ([.ref (adC b (0, 0)), .ref o]) ++ List.replicate (3 - (lg_sl ([.ref (adC b (0, 0)), .ref o])).length) Slot.unset).toArray = ls at hl ⊢
  have hl : lv_has ls 3 [(0, .ref (adC b (0, 0))), (1, .ref o)] := hl
  refine lv_aload_n hx hb (show decode method_4_code 0 = .ok (.aload_n 1, 1) by decide +kernel) rfl (lv_at hl 1 rfl) ?_
  refine lv_iconst (v := 0) hx hb (show decode method_4_code 1 = .ok (.iconst 0, 1) by decide +kernel) (by decide) ?_
  refine lv_aload_n hx hb (show decode method_4_code 2 = .ok (.aload_n 0, 1) by decide +kernel) rfl (lv_at hl 0 rfl) ?_
  have ok := z_okC (ad := adC b) (A := c_A b) h1 h2 h3 (h_D cA)
  have hcall := g_call (p := p) (l := l) (e := e) (R := { frames := 8, cells := 0, slots := 0, locals := 240 }) (m := m) (args := ([.ref (adC b (0, 0)), .ref o] : List Value).toArray) (below := below) (meth := meth) (c := c) (H := s.heap) (locs := []) (cells := 0) (slots := 0) (own := "PrintHouseLaw") (D := D) (nL := 3) (index := 15) (pc := 3) (ls := ls) (rest := [.int 0, .ref o]) (as' := []) (g := 0) (o := 0) ok (mi := kP_tick) (by decide) hrun (by show 1 ≤ _; decide) (zvs_i []) hvw rfl (by decide) rfl hx hb hml hown hts hN hK (by decide) (by decide) hP (zTs_in _ (by decide +kernel) rfl) hl.1 (Nat.le_of_ble_eq_true rfl) (show decode method_4_code 3 = .ok (.invokevirtual 15, 3) by decide +kernel) ⟨Nat.le_refl _, Nat.le_refl _⟩
  refine r_W hcall (fun v st₀ t H1 locs1 h0 hq ht hlo => ?_)
  obtain ⟨q1, q2, q3⟩ := hq
  cases q1
  have hS1 := h_S1 (b := b) (o := o) (s := s) h0 q3 ht hlo
  have hO1 : H1[o]? = some (h_out cA x) := by
    rw [← ht, q3.2 o (by rw [h0]; exact (Array.getElem?_eq_some_iff.mp hO).1) ho, h0]
    exact hO
  rw [ht] at q2
  refine lv_i2l hx hb (show decode method_4_code 6 = .ok (.i2l, 1) by decide +kernel) rfl ?_
  refine h_store hx hb hK h2 ho q2 hO1 hS1 (show decode method_4_code 7 = .ok (.lastore, 1) by decide +kernel) (fun H2 locs2 p1 p2 p3 => ?_)
  refine lv_goto (tgt := 14) hx hb (show decode method_4_code 8 = .ok (.goto 6, 3) by decide +kernel) rfl ?_
  refine lv_iconst (v := 0) hx hb (show decode method_4_code 14 = .ok (.iconst 0, 1) by decide +kernel) (by decide) ?_
  exact W.iret hx hb hr (fun t2 ht2 _ => ⟨rfl, by rw [ht2]; exact p1, by rw [ht2]; exact p2, p3.F ht2⟩) p3.2.2 (show decode method_4_code 15 = .ok (.ireturn, 1) by decide +kernel) hlocks

set_option maxRecDepth 100000 in
theorem ht1_tick {w : z_W} {x : Int64}  {rm : Room} (hrc : rm.cells = 1) (hrs : rm.slots = 6) (hrf : rm.frames ≤ 7) (hrl : rm.locals ≤ 200) (hM : t_Met l (zM kP_tick).1 (z_wm zTs (zM kP_tick)) rm (x_Pc b cA D tys n0 (zR 0 0 :: []) w) "java/lang/IllegalStateException") :
    Met l yL_tick wL_tick { frames := 8, cells := 1, slots := 6, locals := 240 } (h_Pc [.ref (adC b (0, 0)), .ref o] b n0 o cA D tys w x) (h_Qt 1) 1 6 (fun _ => False) := by
  refine va_MetW (cc := method_4_code) (maxL := 3) (ret := some .int) (hh := [(0, 8, 11, 13)]) (by decide) rfl ?_
  intro p e s m args below meth c s₁ B hml hv
  obtain ⟨rfl, hP, hK, hN, hX, hO⟩ := hv
  have hx := B.exec
  have hb := B.bytes
  have hr := B.returns
  have hts0 := atoms_spec (ws := wL_tick) B.pre
  have hts : ∀ w ∈ zTs, w.before ([.ref (adC b (0, 0)), .ref o] : List Value).toArray s = true := fun w hw => hts0 w (List.mem_cons_of_mem _ hw)
  have hown : s.vm.findClass "PrintHouseLaw" = some m.cls := findClass_of_methodNamed B.named
  have hlocks := B.notSynchronized
  have hl := lv_entry ([.ref (adC b (0, 0)), .ref o]) (n := 3) (Nat.le_of_ble_eq_true rfl)
  rw [lg_entry_eq]
  generalize (lg_sl ([.ref (adC b (0, 0)), .ref o]) ++ List.replicate (3 - (lg_sl ([.ref (adC b (0, 0)), .ref o])).length) Slot.unset).toArray = ls at hl ⊢
  have hl : lv_has ls 3 [(0, .ref (adC b (0, 0))), (1, .ref o)] := hl
  refine lv_aload_n hx hb (show decode method_4_code 0 = .ok (.aload_n 1, 1) by decide +kernel) rfl (lv_at hl 1 rfl) ?_
  refine lv_iconst (v := 0) hx hb (show decode method_4_code 1 = .ok (.iconst 0, 1) by decide +kernel) (by decide) ?_
  refine lv_aload_n hx hb (show decode method_4_code 2 = .ok (.aload_n 0, 1) by decide +kernel) rfl (lv_at hl 0 rfl) ?_
  intro T hT X
  obtain ⟨cellB, c1, c2, c3⟩ := va_recv (a := adC b (0, 0)) (q0 := 0) (ci := 0) hK hP rfl rfl
  obtain ⟨m1, m2, m3, m4, m5, m6, m7⟩ := z_mo kP_tick (by decide)
  obtain ⟨m8, m9, -⟩ := m7 (by decide)
  obtain ⟨q, ce, T', X', q1, q2, q3, q4, q5, st⟩ := t_call (b := adC b (0, 0)) (cellB := cellB) (own := "PrintHouseLaw") (C := "PrintHouse") (index := 15) (bytes := (zM kP_tick).2.1) (maxL := (zM kP_tick).2.2.1) (ret := (zM kP_tick).2.2.2.1) (argsL := []) (rest := [.int 0, .ref o]) (g := F0 m 3 ls [.ref (adC b (0, 0)), .int 0, .ref o]) X hx hM x_Pc.blind hrc hrs (show rm.frames + 1 ≤ 8 by omega) (show 8 + ((zM kP_tick).2.2.1 + 11) + rm.locals ≤ 240 from Nat.le_trans (Nat.add_le_add_left hrl _) (by decide)) (Nat.le_refl _) (Nat.le_refl _)
    (fun x hx a' U hW => by
      have hxT : x ∈ zTs := by
        rcases List.mem_cons.mp hx with rfl | h
        · exact m3
        · exact h
      exact word_at hW (good_of_word (zTs_good x hxT)) (hts x hxT))
    List.mem_cons_self hown (hts _ (zTs_in _ (by decide +kernel) rfl)) (hts _ m8) (hts _ m9) (hts _ m4) m2 (by rw [hT]; exact c1) c2 c3 rfl (by rw [hml]; exact hl.1)
    (by
      intro sig hsig
      have h8 := m5 sig hsig
      have h9 : (zM kP_tick).2.2.2.2.1 = 1 := by decide
      rw [h9, if_neg (by decide)] at h8
      show 0 = _
      omega)
    rfl (lv_room (st := [.int 0, .ref o]) (Nat.le_of_ble_eq_true rfl)) (by rw [hb]; exact (show decode method_4_code 3 = .ok (.invokevirtual 15, 3) by decide +kernel))
    (fun U hU hW => ⟨⟨rfl, by rw [hU, hT]; exact hP, va_K.moved hW.alike hK, fun x hx1 => zNs_mv x hx1 s U hW (hN x hx1)⟩, hX.moved hW (fun _ _ => by rw [hU, hT])⟩)
  obtain ⟨m9', meth9, c9, hn9, hm9, hc9, -, -, htab, -, -, -⟩ := Cond.codeWith_spec (hts0 _ List.mem_cons_self)
  cases B.named.symm.trans hn9
  cases B.method.symm.trans hm9
  have hcc : c9 = c := Option.some.inj (hc9.symm.trans X.code)
  subst hcc
  obtain ⟨x0, hx0, e0⟩ := List.map_eq_singleton_iff.mp htab
  simp only [Prod.mk.injEq] at e0
  obtain ⟨e1, e2, e3, e4⟩ := e0
  obtain ⟨hend, hk0⟩ := X'.catches_of_link hown (x := x0) (by rw [e4]; decide) (by rw [e4]; exact hts (.classLink "PrintHouseLaw" 13 "java/lang/IllegalStateException") (zTs_in _ (by decide +kernel) rfl)) q3 (Vm.assignable_self _ _)
  obtain ⟨vm', XV, st2⟩ := X'.thenCaughtThrough q (g := F0 m 3 ls [.int 0, .ref o]) rfl (st _ (Steps.refl _)) q1 (by rw [q2]; rfl) hk0 [] x0 [] hx0 (fun y hy => by cases hy) (by show covers x0 3 = true; simp [covers, e1, e2]) hend
  rw [e3] at st2
  have K : W p l e { frames := 8, cells := 1, slots := 6, locals := 240 } s m ([.ref (adC b (0, 0)), .ref o] : List Value).toArray below meth c9 T'.heap [] 1 6 (MQ below (h_Qt 1) ([.ref (adC b (0, 0)), .ref o] : List Value).toArray s 1 6 (fun _ => False)) (F0 m 11 ls [.ref q]) := by
    refine lv_astore_n hx hb (show decode method_4_code 11 = .ok (.astore_n 2, 1) by decide +kernel) rfl hl (by decide) rfl (fun ls' hl' => ?_)
    refine lv_iconst (v := 1) hx hb (show decode method_4_code 12 = .ok (.iconst 1, 1) by decide +kernel) (by decide) ?_
    exact W.iret hx hb hr (fun t2 ht2 _ => ⟨rfl, by rw [ht2, ← hT]; exact q4, fun q9 h9 _ => by rw [ht2, ← hT]; exact q5 q9 (by rw [hT]; exact h9)⟩) (fun _ h => by cases h) (show decode method_4_code 13 = .ok (.ireturn, 1) by decide +kernel) hlocks
  obtain ⟨t2, a1, b1⟩ := K (T'.setVm vm') rfl XV
  exact ⟨t2, st2.trans a1, b1⟩

def yL_stop : MethodName := ⟨"PrintHouseLaw", "stop", "(LPrintHouse;I[J)I"⟩
def wL_stop : List Jvm.Cond := Jvm.Cond.codeWith yL_stop method_5_code 4 (some .int) [(0, 16, 19, 13)] :: zTs
set_option maxRecDepth 100000 in
theorem hn_stop (h1 : tys[0]? = some (cA 0, .int)) (h2 : tys[1]? = some (cA 1, .long)) (h3 : tys[2]? = some (cA 2, .object "PrintHouse$Job")) (ho : ¬ (b ≤ o ∧ o < b + 60)) {w w' : z_W} {x : Int64} {r : Int32} {n : Nat} {i1 : Int32}
    (hvw : z_vw sC w) (hrun : z_run sC zM zC n kP_stop (0, z_entry (zM kP_stop).2.2.1 (zR 0 0 :: [zI i1]), [], w) = some (w', some (zI r))) :
    Met l yL_stop wL_stop { frames := 8, cells := 0, slots := 0, locals := 240 } (h_Pc [.ref (adC b (0, 0)), .int i1, .ref o] b n0 o cA D tys w x) (h_Qn b o cA D w' (if r = 0 then 0 else 1)) 0 0 (h_A b o) := by
  refine va_MetW (cc := method_5_code) (maxL := 4) (ret := some .int) (hh := [(0, 16, 19, 13)]) (by decide) rfl ?_
  intro p e s m args below meth c s₁ B hml hv
  obtain ⟨rfl, hP, hK, hN, hX, hO⟩ := hv
  have hx := B.exec
  have hb := B.bytes
  have hr := B.returns
  have hts0 := atoms_spec (ws := wL_stop) B.pre
  have hts : ∀ w ∈ zTs, w.before ([.ref (adC b (0, 0)), .int i1, .ref o] : List Value).toArray s = true := fun w hw => hts0 w (List.mem_cons_of_mem _ hw)
  have hown : s.vm.findClass "PrintHouseLaw" = some m.cls := findClass_of_methodNamed B.named
  have hlocks := B.notSynchronized
  have hl := lv_entry ([.ref (adC b (0, 0)), .int i1, .ref o]) (n := 4) (Nat.le_of_ble_eq_true rfl)
  rw [lg_entry_eq]
  generalize (lg_sl ([.ref (adC b (0, 0)), .int i1, .ref o]) ++ List.replicate (4 - (lg_sl ([.ref (adC b (0, 0)), .int i1, .ref o])).length) Slot.unset).toArray = ls at hl ⊢
  have hl : lv_has ls 4 [(0, .ref (adC b (0, 0))), (1, .int i1), (2, .ref o)] := hl
  refine lv_aload_n hx hb (show decode method_5_code 0 = .ok (.aload_n 2, 1) by decide +kernel) rfl (lv_at hl 2 rfl) ?_
  refine lv_iconst (v := 0) hx hb (show decode method_5_code 1 = .ok (.iconst 0, 1) by decide +kernel) (by decide) ?_
  refine lv_aload_n hx hb (show decode method_5_code 2 = .ok (.aload_n 0, 1) by decide +kernel) rfl (lv_at hl 0 rfl) ?_
  refine lv_iload_n hx hb (show decode method_5_code 3 = .ok (.iload_n 1, 1) by decide +kernel) rfl (lv_at hl 1 rfl) ?_
  have ok := z_okC (ad := adC b) (A := c_A b) h1 h2 h3 (h_D cA)
  have hcall := g_call (p := p) (l := l) (e := e) (R := { frames := 8, cells := 0, slots := 0, locals := 240 }) (m := m) (args := ([.ref (adC b (0, 0)), .int i1, .ref o] : List Value).toArray) (below := below) (meth := meth) (c := c) (H := s.heap) (locs := []) (cells := 0) (slots := 0) (own := "PrintHouseLaw") (D := D) (nL := 4) (index := 18) (pc := 4) (ls := ls) (rest := [.int 0, .ref o]) (as' := [zI i1]) (g := 0) (o := 0) ok (mi := kP_stop) (by decide) hrun (by show 2 ≤ _; decide) (zvs_i [i1]) hvw rfl (by decide) rfl hx hb hml hown hts hN hK (by decide) (by decide) hP (zTs_in _ (by decide +kernel) rfl) hl.1 (Nat.le_of_ble_eq_true rfl) (show decode method_5_code 4 = .ok (.invokevirtual 18, 3) by decide +kernel) ⟨Nat.le_refl _, Nat.le_refl _⟩
  refine r_W hcall (fun v st₀ t H1 locs1 h0 hq ht hlo => ?_)
  obtain ⟨q1, q2, q3⟩ := hq
  cases q1
  have hS1 := h_S1 (b := b) (o := o) (s := s) h0 q3 ht hlo
  have hO1 : H1[o]? = some (h_out cA x) := by
    rw [← ht, q3.2 o (by rw [h0]; exact (Array.getElem?_eq_some_iff.mp hO).1) ho, h0]
    exact hO
  rw [ht] at q2
  refine lv_if_eq (tgt := 14) hx hb (show decode method_5_code 7 = .ok (.ifCond .eq 7, 3) by decide +kernel) rfl (fun hz => ?_) (fun hz => ?_)
  · rw [if_pos hz]
    refine lv_lconst (v := 0) hx hb (show decode method_5_code 14 = .ok (.lconst 0, 1) by decide +kernel) (by decide) ?_
    refine h_store hx hb hK h2 ho q2 hO1 hS1 (show decode method_5_code 15 = .ok (.lastore, 1) by decide +kernel) (fun H2 locs2 p1 p2 p3 => ?_)
    refine lv_goto (tgt := 22) hx hb (show decode method_5_code 16 = .ok (.goto 6, 3) by decide +kernel) rfl ?_
    refine lv_iconst (v := 0) hx hb (show decode method_5_code 22 = .ok (.iconst 0, 1) by decide +kernel) (by decide) ?_
    exact W.iret hx hb hr (fun t2 ht2 _ => ⟨rfl, by rw [ht2]; exact p1, by rw [ht2]; exact p2, p3.F ht2⟩) p3.2.2 (show decode method_5_code 23 = .ok (.ireturn, 1) by decide +kernel) hlocks
  · rw [if_neg hz]
    refine lv_lconst (v := 1) hx hb (show decode method_5_code 10 = .ok (.lconst 1, 1) by decide +kernel) (by decide) ?_
    refine lv_goto (tgt := 15) hx hb (show decode method_5_code 11 = .ok (.goto 4, 3) by decide +kernel) rfl ?_
    refine h_store hx hb hK h2 ho q2 hO1 hS1 (show decode method_5_code 15 = .ok (.lastore, 1) by decide +kernel) (fun H2 locs2 p1 p2 p3 => ?_)
    refine lv_goto (tgt := 22) hx hb (show decode method_5_code 16 = .ok (.goto 6, 3) by decide +kernel) rfl ?_
    refine lv_iconst (v := 0) hx hb (show decode method_5_code 22 = .ok (.iconst 0, 1) by decide +kernel) (by decide) ?_
    exact W.iret hx hb hr (fun t2 ht2 _ => ⟨rfl, by rw [ht2]; exact p1, by rw [ht2]; exact p2, p3.F ht2⟩) p3.2.2 (show decode method_5_code 23 = .ok (.ireturn, 1) by decide +kernel) hlocks

set_option maxRecDepth 100000 in
theorem ht1_stop {w : z_W} {x : Int64} {i1 : Int32} {rm : Room} (hrc : rm.cells = 1) (hrs : rm.slots = 6) (hrf : rm.frames ≤ 7) (hrl : rm.locals ≤ 200) (hM : t_Met l (zM kP_stop).1 (z_wm zTs (zM kP_stop)) rm (x_Pc b cA D tys n0 (zR 0 0 :: [zI i1]) w) "java/lang/IllegalStateException") :
    Met l yL_stop wL_stop { frames := 8, cells := 1, slots := 6, locals := 240 } (h_Pc [.ref (adC b (0, 0)), .int i1, .ref o] b n0 o cA D tys w x) (h_Qt 1) 1 6 (fun _ => False) := by
  refine va_MetW (cc := method_5_code) (maxL := 4) (ret := some .int) (hh := [(0, 16, 19, 13)]) (by decide) rfl ?_
  intro p e s m args below meth c s₁ B hml hv
  obtain ⟨rfl, hP, hK, hN, hX, hO⟩ := hv
  have hx := B.exec
  have hb := B.bytes
  have hr := B.returns
  have hts0 := atoms_spec (ws := wL_stop) B.pre
  have hts : ∀ w ∈ zTs, w.before ([.ref (adC b (0, 0)), .int i1, .ref o] : List Value).toArray s = true := fun w hw => hts0 w (List.mem_cons_of_mem _ hw)
  have hown : s.vm.findClass "PrintHouseLaw" = some m.cls := findClass_of_methodNamed B.named
  have hlocks := B.notSynchronized
  have hl := lv_entry ([.ref (adC b (0, 0)), .int i1, .ref o]) (n := 4) (Nat.le_of_ble_eq_true rfl)
  rw [lg_entry_eq]
  generalize (lg_sl ([.ref (adC b (0, 0)), .int i1, .ref o]) ++ List.replicate (4 - (lg_sl ([.ref (adC b (0, 0)), .int i1, .ref o])).length) Slot.unset).toArray = ls at hl ⊢
  have hl : lv_has ls 4 [(0, .ref (adC b (0, 0))), (1, .int i1), (2, .ref o)] := hl
  refine lv_aload_n hx hb (show decode method_5_code 0 = .ok (.aload_n 2, 1) by decide +kernel) rfl (lv_at hl 2 rfl) ?_
  refine lv_iconst (v := 0) hx hb (show decode method_5_code 1 = .ok (.iconst 0, 1) by decide +kernel) (by decide) ?_
  refine lv_aload_n hx hb (show decode method_5_code 2 = .ok (.aload_n 0, 1) by decide +kernel) rfl (lv_at hl 0 rfl) ?_
  refine lv_iload_n hx hb (show decode method_5_code 3 = .ok (.iload_n 1, 1) by decide +kernel) rfl (lv_at hl 1 rfl) ?_
  intro T hT X
  obtain ⟨cellB, c1, c2, c3⟩ := va_recv (a := adC b (0, 0)) (q0 := 0) (ci := 0) hK hP rfl rfl
  obtain ⟨m1, m2, m3, m4, m5, m6, m7⟩ := z_mo kP_stop (by decide)
  obtain ⟨m8, m9, -⟩ := m7 (by decide)
  obtain ⟨q, ce, T', X', q1, q2, q3, q4, q5, st⟩ := t_call (b := adC b (0, 0)) (cellB := cellB) (own := "PrintHouseLaw") (C := "PrintHouse") (index := 18) (bytes := (zM kP_stop).2.1) (maxL := (zM kP_stop).2.2.1) (ret := (zM kP_stop).2.2.2.1) (argsL := [.int i1]) (rest := [.int 0, .ref o]) (g := F0 m 4 ls [.int i1, .ref (adC b (0, 0)), .int 0, .ref o]) X hx hM x_Pc.blind hrc hrs (show rm.frames + 1 ≤ 8 by omega) (show 8 + ((zM kP_stop).2.2.1 + 11) + rm.locals ≤ 240 from Nat.le_trans (Nat.add_le_add_left hrl _) (by decide)) (Nat.le_refl _) (Nat.le_refl _)
    (fun x hx a' U hW => by
      have hxT : x ∈ zTs := by
        rcases List.mem_cons.mp hx with rfl | h
        · exact m3
        · exact h
      exact word_at hW (good_of_word (zTs_good x hxT)) (hts x hxT))
    List.mem_cons_self hown (hts _ (zTs_in _ (by decide +kernel) rfl)) (hts _ m8) (hts _ m9) (hts _ m4) m2 (by rw [hT]; exact c1) c2 c3 rfl (by rw [hml]; exact hl.1)
    (by
      intro sig hsig
      have h8 := m5 sig hsig
      have h9 : (zM kP_stop).2.2.2.2.1 = 2 := by decide
      rw [h9, if_neg (by decide)] at h8
      show 1 = _
      omega)
    rfl (lv_room (st := [.int 0, .ref o]) (Nat.le_of_ble_eq_true rfl)) (by rw [hb]; exact (show decode method_5_code 4 = .ok (.invokevirtual 18, 3) by decide +kernel))
    (fun U hU hW => ⟨⟨rfl, by rw [hU, hT]; exact hP, va_K.moved hW.alike hK, fun x hx1 => zNs_mv x hx1 s U hW (hN x hx1)⟩, hX.moved hW (fun _ _ => by rw [hU, hT])⟩)
  obtain ⟨m9', meth9, c9, hn9, hm9, hc9, -, -, htab, -, -, -⟩ := Cond.codeWith_spec (hts0 _ List.mem_cons_self)
  cases B.named.symm.trans hn9
  cases B.method.symm.trans hm9
  have hcc : c9 = c := Option.some.inj (hc9.symm.trans X.code)
  subst hcc
  obtain ⟨x0, hx0, e0⟩ := List.map_eq_singleton_iff.mp htab
  simp only [Prod.mk.injEq] at e0
  obtain ⟨e1, e2, e3, e4⟩ := e0
  obtain ⟨hend, hk0⟩ := X'.catches_of_link hown (x := x0) (by rw [e4]; decide) (by rw [e4]; exact hts (.classLink "PrintHouseLaw" 13 "java/lang/IllegalStateException") (zTs_in _ (by decide +kernel) rfl)) q3 (Vm.assignable_self _ _)
  obtain ⟨vm', XV, st2⟩ := X'.thenCaughtThrough q (g := F0 m 4 ls [.int 0, .ref o]) rfl (st _ (Steps.refl _)) q1 (by rw [q2]; rfl) hk0 [] x0 [] hx0 (fun y hy => by cases hy) (by show covers x0 4 = true; simp [covers, e1, e2]) hend
  rw [e3] at st2
  have K : W p l e { frames := 8, cells := 1, slots := 6, locals := 240 } s m ([.ref (adC b (0, 0)), .int i1, .ref o] : List Value).toArray below meth c9 T'.heap [] 1 6 (MQ below (h_Qt 1) ([.ref (adC b (0, 0)), .int i1, .ref o] : List Value).toArray s 1 6 (fun _ => False)) (F0 m 19 ls [.ref q]) := by
    refine lv_astore_n hx hb (show decode method_5_code 19 = .ok (.astore_n 3, 1) by decide +kernel) rfl hl (by decide) rfl (fun ls' hl' => ?_)
    refine lv_iconst (v := 1) hx hb (show decode method_5_code 20 = .ok (.iconst 1, 1) by decide +kernel) (by decide) ?_
    exact W.iret hx hb hr (fun t2 ht2 _ => ⟨rfl, by rw [ht2, ← hT]; exact q4, fun q9 h9 _ => by rw [ht2, ← hT]; exact q5 q9 (by rw [hT]; exact h9)⟩) (fun _ h => by cases h) (show decode method_5_code 21 = .ok (.ireturn, 1) by decide +kernel) hlocks
  obtain ⟨t2, a1, b1⟩ := K (T'.setVm vm') rfl XV
  exact ⟨t2, st2.trans a1, b1⟩

def yL_job : MethodName := ⟨"PrintHouseLaw", "job", "(LPrintHouse;II[J)I"⟩
def wL_job : List Jvm.Cond := Jvm.Cond.codeWith yL_job method_6_code 5 (some .int) [(0, 10, 13, 13), (0, 10, 17, 26)] :: zTs
set_option maxRecDepth 100000 in
theorem hn_job (h1 : tys[0]? = some (cA 0, .int)) (h2 : tys[1]? = some (cA 1, .long)) (h3 : tys[2]? = some (cA 2, .object "PrintHouse$Job")) (ho : ¬ (b ≤ o ∧ o < b + 60)) {w w' : z_W} {x : Int64} {r : Int32} {n : Nat} {i1 : Int32} {i2 : Int32}
    (hvw : z_vw sC w) (hrun : z_run sC zM zC n kP_job (0, z_entry (zM kP_job).2.2.1 (zR 0 0 :: [zI i1, zI i2]), [], w) = some (w', some (zI r))) :
    Met l yL_job wL_job { frames := 8, cells := 0, slots := 0, locals := 240 } (h_Pc [.ref (adC b (0, 0)), .int i1, .int i2, .ref o] b n0 o cA D tys w x) (h_Qn b o cA D w' r.toInt64) 0 0 (h_A b o) := by
  refine va_MetW (cc := method_6_code) (maxL := 5) (ret := some .int) (hh := [(0, 10, 13, 13), (0, 10, 17, 26)]) (by decide) rfl ?_
  intro p e s m args below meth c s₁ B hml hv
  obtain ⟨rfl, hP, hK, hN, hX, hO⟩ := hv
  have hx := B.exec
  have hb := B.bytes
  have hr := B.returns
  have hts0 := atoms_spec (ws := wL_job) B.pre
  have hts : ∀ w ∈ zTs, w.before ([.ref (adC b (0, 0)), .int i1, .int i2, .ref o] : List Value).toArray s = true := fun w hw => hts0 w (List.mem_cons_of_mem _ hw)
  have hown : s.vm.findClass "PrintHouseLaw" = some m.cls := findClass_of_methodNamed B.named
  have hlocks := B.notSynchronized
  have hl := lv_entry ([.ref (adC b (0, 0)), .int i1, .int i2, .ref o]) (n := 5) (Nat.le_of_ble_eq_true rfl)
  rw [lg_entry_eq]
  generalize (lg_sl ([.ref (adC b (0, 0)), .int i1, .int i2, .ref o]) ++ List.replicate (5 - (lg_sl ([.ref (adC b (0, 0)), .int i1, .int i2, .ref o])).length) Slot.unset).toArray = ls at hl ⊢
  have hl : lv_has ls 5 [(0, .ref (adC b (0, 0))), (1, .int i1), (2, .int i2), (3, .ref o)] := hl
  refine lv_aload_n hx hb (show decode method_6_code 0 = .ok (.aload_n 3, 1) by decide +kernel) rfl (lv_at hl 3 rfl) ?_
  refine lv_iconst (v := 0) hx hb (show decode method_6_code 1 = .ok (.iconst 0, 1) by decide +kernel) (by decide) ?_
  refine lv_aload_n hx hb (show decode method_6_code 2 = .ok (.aload_n 0, 1) by decide +kernel) rfl (lv_at hl 0 rfl) ?_
  refine lv_iload_n hx hb (show decode method_6_code 3 = .ok (.iload_n 1, 1) by decide +kernel) rfl (lv_at hl 1 rfl) ?_
  refine lv_iload_n hx hb (show decode method_6_code 4 = .ok (.iload_n 2, 1) by decide +kernel) rfl (lv_at hl 2 rfl) ?_
  have ok := z_okC (ad := adC b) (A := c_A b) h1 h2 h3 (h_D cA)
  have hcall := g_call (p := p) (l := l) (e := e) (R := { frames := 8, cells := 0, slots := 0, locals := 240 }) (m := m) (args := ([.ref (adC b (0, 0)), .int i1, .int i2, .ref o] : List Value).toArray) (below := below) (meth := meth) (c := c) (H := s.heap) (locs := []) (cells := 0) (slots := 0) (own := "PrintHouseLaw") (D := D) (nL := 5) (index := 22) (pc := 5) (ls := ls) (rest := [.int 0, .ref o]) (as' := [zI i1, zI i2]) (g := 0) (o := 0) ok (mi := kP_job) (by decide) hrun (by show 3 ≤ _; decide) (zvs_i [i1, i2]) hvw rfl (by decide) rfl hx hb hml hown hts hN hK (by decide) (by decide) hP (zTs_in _ (by decide +kernel) rfl) hl.1 (Nat.le_of_ble_eq_true rfl) (show decode method_6_code 5 = .ok (.invokevirtual 22, 3) by decide +kernel) ⟨Nat.le_refl _, Nat.le_refl _⟩
  refine r_W hcall (fun v st₀ t H1 locs1 h0 hq ht hlo => ?_)
  obtain ⟨q1, q2, q3⟩ := hq
  cases q1
  have hS1 := h_S1 (b := b) (o := o) (s := s) h0 q3 ht hlo
  have hO1 : H1[o]? = some (h_out cA x) := by
    rw [← ht, q3.2 o (by rw [h0]; exact (Array.getElem?_eq_some_iff.mp hO).1) ho, h0]
    exact hO
  rw [ht] at q2
  refine lv_i2l hx hb (show decode method_6_code 8 = .ok (.i2l, 1) by decide +kernel) rfl ?_
  refine h_store hx hb hK h2 ho q2 hO1 hS1 (show decode method_6_code 9 = .ok (.lastore, 1) by decide +kernel) (fun H2 locs2 p1 p2 p3 => ?_)
  refine lv_goto (tgt := 21) hx hb (show decode method_6_code 10 = .ok (.goto 11, 3) by decide +kernel) rfl ?_
  refine lv_iconst (v := 0) hx hb (show decode method_6_code 21 = .ok (.iconst 0, 1) by decide +kernel) (by decide) ?_
  exact W.iret hx hb hr (fun t2 ht2 _ => ⟨rfl, by rw [ht2]; exact p1, by rw [ht2]; exact p2, p3.F ht2⟩) p3.2.2 (show decode method_6_code 22 = .ok (.ireturn, 1) by decide +kernel) hlocks

set_option maxRecDepth 100000 in
theorem ht1_job {w : z_W} {x : Int64} {i1 : Int32} {i2 : Int32} {rm : Room} (hrc : rm.cells = 1) (hrs : rm.slots = 6) (hrf : rm.frames ≤ 7) (hrl : rm.locals ≤ 200) (hM : t_Met l (zM kP_job).1 (z_wm zTs (zM kP_job)) rm (x_Pc b cA D tys n0 (zR 0 0 :: [zI i1, zI i2]) w) "java/lang/IllegalStateException") :
    Met l yL_job wL_job { frames := 8, cells := 1, slots := 6, locals := 240 } (h_Pc [.ref (adC b (0, 0)), .int i1, .int i2, .ref o] b n0 o cA D tys w x) (h_Qt 1) 1 6 (fun _ => False) := by
  refine va_MetW (cc := method_6_code) (maxL := 5) (ret := some .int) (hh := [(0, 10, 13, 13), (0, 10, 17, 26)]) (by decide) rfl ?_
  intro p e s m args below meth c s₁ B hml hv
  obtain ⟨rfl, hP, hK, hN, hX, hO⟩ := hv
  have hx := B.exec
  have hb := B.bytes
  have hr := B.returns
  have hts0 := atoms_spec (ws := wL_job) B.pre
  have hts : ∀ w ∈ zTs, w.before ([.ref (adC b (0, 0)), .int i1, .int i2, .ref o] : List Value).toArray s = true := fun w hw => hts0 w (List.mem_cons_of_mem _ hw)
  have hown : s.vm.findClass "PrintHouseLaw" = some m.cls := findClass_of_methodNamed B.named
  have hlocks := B.notSynchronized
  have hl := lv_entry ([.ref (adC b (0, 0)), .int i1, .int i2, .ref o]) (n := 5) (Nat.le_of_ble_eq_true rfl)
  rw [lg_entry_eq]
  generalize (lg_sl ([.ref (adC b (0, 0)), .int i1, .int i2, .ref o]) ++ List.replicate (5 - (lg_sl ([.ref (adC b (0, 0)), .int i1, .int i2, .ref o])).length) Slot.unset).toArray = ls at hl ⊢
  have hl : lv_has ls 5 [(0, .ref (adC b (0, 0))), (1, .int i1), (2, .int i2), (3, .ref o)] := hl
  refine lv_aload_n hx hb (show decode method_6_code 0 = .ok (.aload_n 3, 1) by decide +kernel) rfl (lv_at hl 3 rfl) ?_
  refine lv_iconst (v := 0) hx hb (show decode method_6_code 1 = .ok (.iconst 0, 1) by decide +kernel) (by decide) ?_
  refine lv_aload_n hx hb (show decode method_6_code 2 = .ok (.aload_n 0, 1) by decide +kernel) rfl (lv_at hl 0 rfl) ?_
  refine lv_iload_n hx hb (show decode method_6_code 3 = .ok (.iload_n 1, 1) by decide +kernel) rfl (lv_at hl 1 rfl) ?_
  refine lv_iload_n hx hb (show decode method_6_code 4 = .ok (.iload_n 2, 1) by decide +kernel) rfl (lv_at hl 2 rfl) ?_
  intro T hT X
  obtain ⟨cellB, c1, c2, c3⟩ := va_recv (a := adC b (0, 0)) (q0 := 0) (ci := 0) hK hP rfl rfl
  obtain ⟨m1, m2, m3, m4, m5, m6, m7⟩ := z_mo kP_job (by decide)
  obtain ⟨m8, m9, -⟩ := m7 (by decide)
  obtain ⟨q, ce, T', X', q1, q2, q3, q4, q5, st⟩ := t_call (b := adC b (0, 0)) (cellB := cellB) (own := "PrintHouseLaw") (C := "PrintHouse") (index := 22) (bytes := (zM kP_job).2.1) (maxL := (zM kP_job).2.2.1) (ret := (zM kP_job).2.2.2.1) (argsL := [.int i1, .int i2]) (rest := [.int 0, .ref o]) (g := F0 m 5 ls [.int i2, .int i1, .ref (adC b (0, 0)), .int 0, .ref o]) X hx hM x_Pc.blind hrc hrs (show rm.frames + 1 ≤ 8 by omega) (show 8 + ((zM kP_job).2.2.1 + 11) + rm.locals ≤ 240 from Nat.le_trans (Nat.add_le_add_left hrl _) (by decide)) (Nat.le_refl _) (Nat.le_refl _)
    (fun x hx a' U hW => by
      have hxT : x ∈ zTs := by
        rcases List.mem_cons.mp hx with rfl | h
        · exact m3
        · exact h
      exact word_at hW (good_of_word (zTs_good x hxT)) (hts x hxT))
    List.mem_cons_self hown (hts _ (zTs_in _ (by decide +kernel) rfl)) (hts _ m8) (hts _ m9) (hts _ m4) m2 (by rw [hT]; exact c1) c2 c3 rfl (by rw [hml]; exact hl.1)
    (by
      intro sig hsig
      have h8 := m5 sig hsig
      have h9 : (zM kP_job).2.2.2.2.1 = 3 := by decide
      rw [h9, if_neg (by decide)] at h8
      show 2 = _
      omega)
    rfl (lv_room (st := [.int 0, .ref o]) (Nat.le_of_ble_eq_true rfl)) (by rw [hb]; exact (show decode method_6_code 5 = .ok (.invokevirtual 22, 3) by decide +kernel))
    (fun U hU hW => ⟨⟨rfl, by rw [hU, hT]; exact hP, va_K.moved hW.alike hK, fun x hx1 => zNs_mv x hx1 s U hW (hN x hx1)⟩, hX.moved hW (fun _ _ => by rw [hU, hT])⟩)
  obtain ⟨m9', meth9, c9, hn9, hm9, hc9, -, -, htab, -, -, -⟩ := Cond.codeWith_spec (hts0 _ List.mem_cons_self)
  cases B.named.symm.trans hn9
  cases B.method.symm.trans hm9
  have hcc : c9 = c := Option.some.inj (hc9.symm.trans X.code)
  subst hcc
  obtain ⟨x0, r0, hx0, e0, htab⟩ := List.map_eq_cons_iff.mp htab
  obtain ⟨x1, hx1, f0⟩ := List.map_eq_singleton_iff.mp htab
  subst hx1
  simp only [Prod.mk.injEq] at e0 f0
  obtain ⟨e1, e2, e3, e4⟩ := e0
  obtain ⟨f1, f2, f3, f4⟩ := f0
  obtain ⟨hend, hk0⟩ := X'.catches_of_link hown (x := x0) (by rw [e4]; decide) (by rw [e4]; exact hts (.classLink "PrintHouseLaw" 13 "java/lang/IllegalStateException") (zTs_in _ (by decide +kernel) rfl)) q3 (Vm.assignable_self _ _)
  obtain ⟨vm', XV, st2⟩ := X'.thenCaughtThrough q (g := F0 m 5 ls [.int 0, .ref o]) rfl (st _ (Steps.refl _)) q1 (by rw [q2]; rfl) hk0 [] x0 [x1] hx0 (fun y hy => by cases hy) (by show covers x0 5 = true; simp [covers, e1, e2]) hend
  rw [e3] at st2
  have K : W p l e { frames := 8, cells := 1, slots := 6, locals := 240 } s m ([.ref (adC b (0, 0)), .int i1, .int i2, .ref o] : List Value).toArray below meth c9 T'.heap [] 1 6 (MQ below (h_Qt 1) ([.ref (adC b (0, 0)), .int i1, .int i2, .ref o] : List Value).toArray s 1 6 (fun _ => False)) (F0 m 13 ls [.ref q]) := by
    refine lv_astore hx hb (show decode method_6_code 13 = .ok (.astore 4, 2) by decide +kernel) hl (by decide) rfl (fun ls' hl' => ?_)
    refine lv_iconst (v := 1) hx hb (show decode method_6_code 15 = .ok (.iconst 1, 1) by decide +kernel) (by decide) ?_
    exact W.iret hx hb hr (fun t2 ht2 _ => ⟨rfl, by rw [ht2, ← hT]; exact q4, fun q9 h9 _ => by rw [ht2, ← hT]; exact q5 q9 (by rw [hT]; exact h9)⟩) (fun _ h => by cases h) (show decode method_6_code 16 = .ok (.ireturn, 1) by decide +kernel) hlocks
  obtain ⟨t2, a1, b1⟩ := K (T'.setVm vm') rfl XV
  exact ⟨t2, st2.trans a1, b1⟩

set_option maxRecDepth 100000 in
theorem ht2_job {w : z_W} {x : Int64} {i1 : Int32} {i2 : Int32} {rm : Room} (hrc : rm.cells = 1) (hrs : rm.slots = 6) (hrf : rm.frames ≤ 7) (hrl : rm.locals ≤ 200) (hM : t_Met l (zM kP_job).1 (z_wm zTs (zM kP_job)) rm (x_Pc b cA D tys n0 (zR 0 0 :: [zI i1, zI i2]) w) "java/lang/IndexOutOfBoundsException") :
    Met l yL_job wL_job { frames := 8, cells := 1, slots := 6, locals := 240 } (h_Pc [.ref (adC b (0, 0)), .int i1, .int i2, .ref o] b n0 o cA D tys w x) (h_Qt 2) 1 6 (fun _ => False) := by
  refine va_MetW (cc := method_6_code) (maxL := 5) (ret := some .int) (hh := [(0, 10, 13, 13), (0, 10, 17, 26)]) (by decide) rfl ?_
  intro p e s m args below meth c s₁ B hml hv
  obtain ⟨rfl, hP, hK, hN, hX, hO⟩ := hv
  have hx := B.exec
  have hb := B.bytes
  have hr := B.returns
  have hts0 := atoms_spec (ws := wL_job) B.pre
  have hts : ∀ w ∈ zTs, w.before ([.ref (adC b (0, 0)), .int i1, .int i2, .ref o] : List Value).toArray s = true := fun w hw => hts0 w (List.mem_cons_of_mem _ hw)
  have hown : s.vm.findClass "PrintHouseLaw" = some m.cls := findClass_of_methodNamed B.named
  have hlocks := B.notSynchronized
  have hl := lv_entry ([.ref (adC b (0, 0)), .int i1, .int i2, .ref o]) (n := 5) (Nat.le_of_ble_eq_true rfl)
  rw [lg_entry_eq]
  generalize (lg_sl ([.ref (adC b (0, 0)), .int i1, .int i2, .ref o]) ++ List.replicate (5 - (lg_sl ([.ref (adC b (0, 0)), .int i1, .int i2, .ref o])).length) Slot.unset).toArray = ls at hl ⊢
  have hl : lv_has ls 5 [(0, .ref (adC b (0, 0))), (1, .int i1), (2, .int i2), (3, .ref o)] := hl
  refine lv_aload_n hx hb (show decode method_6_code 0 = .ok (.aload_n 3, 1) by decide +kernel) rfl (lv_at hl 3 rfl) ?_
  refine lv_iconst (v := 0) hx hb (show decode method_6_code 1 = .ok (.iconst 0, 1) by decide +kernel) (by decide) ?_
  refine lv_aload_n hx hb (show decode method_6_code 2 = .ok (.aload_n 0, 1) by decide +kernel) rfl (lv_at hl 0 rfl) ?_
  refine lv_iload_n hx hb (show decode method_6_code 3 = .ok (.iload_n 1, 1) by decide +kernel) rfl (lv_at hl 1 rfl) ?_
  refine lv_iload_n hx hb (show decode method_6_code 4 = .ok (.iload_n 2, 1) by decide +kernel) rfl (lv_at hl 2 rfl) ?_
  intro T hT X
  obtain ⟨cellB, c1, c2, c3⟩ := va_recv (a := adC b (0, 0)) (q0 := 0) (ci := 0) hK hP rfl rfl
  obtain ⟨m1, m2, m3, m4, m5, m6, m7⟩ := z_mo kP_job (by decide)
  obtain ⟨m8, m9, -⟩ := m7 (by decide)
  obtain ⟨q, ce, T', X', q1, q2, q3, q4, q5, st⟩ := t_call (b := adC b (0, 0)) (cellB := cellB) (own := "PrintHouseLaw") (C := "PrintHouse") (index := 22) (bytes := (zM kP_job).2.1) (maxL := (zM kP_job).2.2.1) (ret := (zM kP_job).2.2.2.1) (argsL := [.int i1, .int i2]) (rest := [.int 0, .ref o]) (g := F0 m 5 ls [.int i2, .int i1, .ref (adC b (0, 0)), .int 0, .ref o]) X hx hM x_Pc.blind hrc hrs (show rm.frames + 1 ≤ 8 by omega) (show 8 + ((zM kP_job).2.2.1 + 11) + rm.locals ≤ 240 from Nat.le_trans (Nat.add_le_add_left hrl _) (by decide)) (Nat.le_refl _) (Nat.le_refl _)
    (fun x hx a' U hW => by
      have hxT : x ∈ zTs := by
        rcases List.mem_cons.mp hx with rfl | h
        · exact m3
        · exact h
      exact word_at hW (good_of_word (zTs_good x hxT)) (hts x hxT))
    List.mem_cons_self hown (hts _ (zTs_in _ (by decide +kernel) rfl)) (hts _ m8) (hts _ m9) (hts _ m4) m2 (by rw [hT]; exact c1) c2 c3 rfl (by rw [hml]; exact hl.1)
    (by
      intro sig hsig
      have h8 := m5 sig hsig
      have h9 : (zM kP_job).2.2.2.2.1 = 3 := by decide
      rw [h9, if_neg (by decide)] at h8
      show 2 = _
      omega)
    rfl (lv_room (st := [.int 0, .ref o]) (Nat.le_of_ble_eq_true rfl)) (by rw [hb]; exact (show decode method_6_code 5 = .ok (.invokevirtual 22, 3) by decide +kernel))
    (fun U hU hW => ⟨⟨rfl, by rw [hU, hT]; exact hP, va_K.moved hW.alike hK, fun x hx1 => zNs_mv x hx1 s U hW (hN x hx1)⟩, hX.moved hW (fun _ _ => by rw [hU, hT])⟩)
  obtain ⟨m9', meth9, c9, hn9, hm9, hc9, -, -, htab, -, -, -⟩ := Cond.codeWith_spec (hts0 _ List.mem_cons_self)
  cases B.named.symm.trans hn9
  cases B.method.symm.trans hm9
  have hcc : c9 = c := Option.some.inj (hc9.symm.trans X.code)
  subst hcc
  obtain ⟨x0, r0, hx0, e0, htab⟩ := List.map_eq_cons_iff.mp htab
  obtain ⟨x1, hx1, f0⟩ := List.map_eq_singleton_iff.mp htab
  subst hx1
  simp only [Prod.mk.injEq] at e0 f0
  obtain ⟨e1, e2, e3, e4⟩ := e0
  obtain ⟨f1, f2, f3, f4⟩ := f0
  have hpass : ∀ y ∈ [x0], RowPassed e.platform s m.cls 5 ce.cls y := by
    intro y hy
    rw [List.mem_singleton] at hy
    subst hy
    have hpl : e.platform.magicAccessors = ({} : Platform).magicAccessors := by rw [X'.admits.platform]
    obtain ⟨c', hc', hcl⟩ := Cond.classLink_spec hown (hts (.classLink "PrintHouseLaw" 13 "java/lang/IllegalStateException") (zTs_in _ (by decide +kernel) rfl)) e.platform hpl
    obtain ⟨cE, tE, n1, n2, n3⟩ := hX.2.2.2
    cases n1.symm.trans q3
    cases n2.symm.trans hc'
    exact Or.inr ⟨by rw [e4]; decide, _, by rw [e4]; exact hcl, n3⟩
  obtain ⟨hend, hk0⟩ := X'.catches_of_link hown (x := x1) (by rw [f4]; decide) (by rw [f4]; exact hts (.classLink "PrintHouseLaw" 26 "java/lang/IndexOutOfBoundsException") (zTs_in _ (by decide +kernel) rfl)) q3 (Vm.assignable_self _ _)
  obtain ⟨vm', XV, st2⟩ := X'.thenCaughtThrough q (g := F0 m 5 ls [.int 0, .ref o]) rfl (st _ (Steps.refl _)) q1 (by rw [q2]; rfl) hk0 [x0] x1 [] hx0 hpass (by show covers x1 5 = true; simp [covers, f1, f2]) hend
  rw [f3] at st2
  have K : W p l e { frames := 8, cells := 1, slots := 6, locals := 240 } s m ([.ref (adC b (0, 0)), .int i1, .int i2, .ref o] : List Value).toArray below meth c9 T'.heap [] 1 6 (MQ below (h_Qt 2) ([.ref (adC b (0, 0)), .int i1, .int i2, .ref o] : List Value).toArray s 1 6 (fun _ => False)) (F0 m 17 ls [.ref q]) := by
    refine lv_astore hx hb (show decode method_6_code 17 = .ok (.astore 4, 2) by decide +kernel) hl (by decide) rfl (fun ls' hl' => ?_)
    refine lv_iconst (v := 2) hx hb (show decode method_6_code 19 = .ok (.iconst 2, 1) by decide +kernel) (by decide) ?_
    exact W.iret hx hb hr (fun t2 ht2 _ => ⟨rfl, by rw [ht2, ← hT]; exact q4, fun q9 h9 _ => by rw [ht2, ← hT]; exact q5 q9 (by rw [hT]; exact h9)⟩) (fun _ h => by cases h) (show decode method_6_code 20 = .ok (.ireturn, 1) by decide +kernel) hlocks
  obtain ⟨t2, a1, b1⟩ := K (T'.setVm vm') rfl XV
  exact ⟨t2, st2.trans a1, b1⟩

def yL_pixel : MethodName := ⟨"PrintHouseLaw", "pixel", "(LPrintHouse;III[J)I"⟩
def wL_pixel : List Jvm.Cond := Jvm.Cond.codeWith yL_pixel method_7_code 6 (some .int) [(0, 12, 15, 13), (0, 12, 19, 26)] :: zTs
set_option maxRecDepth 100000 in
theorem hn_pixel (h1 : tys[0]? = some (cA 0, .int)) (h2 : tys[1]? = some (cA 1, .long)) (h3 : tys[2]? = some (cA 2, .object "PrintHouse$Job")) (ho : ¬ (b ≤ o ∧ o < b + 60)) {w w' : z_W} {x : Int64} {r : Int32} {n : Nat} {i1 : Int32} {i2 : Int32} {i3 : Int32}
    (hvw : z_vw sC w) (hrun : z_run sC zM zC n kP_pixel (0, z_entry (zM kP_pixel).2.2.1 (zR 0 0 :: [zI i1, zI i2, zI i3]), [], w) = some (w', some (zI r))) :
    Met l yL_pixel wL_pixel { frames := 8, cells := 0, slots := 0, locals := 240 } (h_Pc [.ref (adC b (0, 0)), .int i1, .int i2, .int i3, .ref o] b n0 o cA D tys w x) (h_Qn b o cA D w' r.toInt64) 0 0 (h_A b o) := by
  refine va_MetW (cc := method_7_code) (maxL := 6) (ret := some .int) (hh := [(0, 12, 15, 13), (0, 12, 19, 26)]) (by decide) rfl ?_
  intro p e s m args below meth c s₁ B hml hv
  obtain ⟨rfl, hP, hK, hN, hX, hO⟩ := hv
  have hx := B.exec
  have hb := B.bytes
  have hr := B.returns
  have hts0 := atoms_spec (ws := wL_pixel) B.pre
  have hts : ∀ w ∈ zTs, w.before ([.ref (adC b (0, 0)), .int i1, .int i2, .int i3, .ref o] : List Value).toArray s = true := fun w hw => hts0 w (List.mem_cons_of_mem _ hw)
  have hown : s.vm.findClass "PrintHouseLaw" = some m.cls := findClass_of_methodNamed B.named
  have hlocks := B.notSynchronized
  have hl := lv_entry ([.ref (adC b (0, 0)), .int i1, .int i2, .int i3, .ref o]) (n := 6) (Nat.le_of_ble_eq_true rfl)
  rw [lg_entry_eq]
  generalize (lg_sl ([.ref (adC b (0, 0)), .int i1, .int i2, .int i3, .ref o]) ++ List.replicate (6 - (lg_sl ([.ref (adC b (0, 0)), .int i1, .int i2, .int i3, .ref o])).length) Slot.unset).toArray = ls at hl ⊢
  have hl : lv_has ls 6 [(0, .ref (adC b (0, 0))), (1, .int i1), (2, .int i2), (3, .int i3), (4, .ref o)] := hl
  refine lv_aload hx hb (show decode method_7_code 0 = .ok (.aload 4, 2) by decide +kernel) (lv_at hl 4 rfl) ?_
  refine lv_iconst (v := 0) hx hb (show decode method_7_code 2 = .ok (.iconst 0, 1) by decide +kernel) (by decide) ?_
  refine lv_aload_n hx hb (show decode method_7_code 3 = .ok (.aload_n 0, 1) by decide +kernel) rfl (lv_at hl 0 rfl) ?_
  refine lv_iload_n hx hb (show decode method_7_code 4 = .ok (.iload_n 1, 1) by decide +kernel) rfl (lv_at hl 1 rfl) ?_
  refine lv_iload_n hx hb (show decode method_7_code 5 = .ok (.iload_n 2, 1) by decide +kernel) rfl (lv_at hl 2 rfl) ?_
  refine lv_iload_n hx hb (show decode method_7_code 6 = .ok (.iload_n 3, 1) by decide +kernel) rfl (lv_at hl 3 rfl) ?_
  have ok := z_okC (ad := adC b) (A := c_A b) h1 h2 h3 (h_D cA)
  have hcall := g_call (p := p) (l := l) (e := e) (R := { frames := 8, cells := 0, slots := 0, locals := 240 }) (m := m) (args := ([.ref (adC b (0, 0)), .int i1, .int i2, .int i3, .ref o] : List Value).toArray) (below := below) (meth := meth) (c := c) (H := s.heap) (locs := []) (cells := 0) (slots := 0) (own := "PrintHouseLaw") (D := D) (nL := 6) (index := 28) (pc := 7) (ls := ls) (rest := [.int 0, .ref o]) (as' := [zI i1, zI i2, zI i3]) (g := 0) (o := 0) ok (mi := kP_pixel) (by decide) hrun (by show 4 ≤ _; decide) (zvs_i [i1, i2, i3]) hvw rfl (by decide) rfl hx hb hml hown hts hN hK (by decide) (by decide) hP (zTs_in _ (by decide +kernel) rfl) hl.1 (Nat.le_of_ble_eq_true rfl) (show decode method_7_code 7 = .ok (.invokevirtual 28, 3) by decide +kernel) ⟨Nat.le_refl _, Nat.le_refl _⟩
  refine r_W hcall (fun v st₀ t H1 locs1 h0 hq ht hlo => ?_)
  obtain ⟨q1, q2, q3⟩ := hq
  cases q1
  have hS1 := h_S1 (b := b) (o := o) (s := s) h0 q3 ht hlo
  have hO1 : H1[o]? = some (h_out cA x) := by
    rw [← ht, q3.2 o (by rw [h0]; exact (Array.getElem?_eq_some_iff.mp hO).1) ho, h0]
    exact hO
  rw [ht] at q2
  refine lv_i2l hx hb (show decode method_7_code 10 = .ok (.i2l, 1) by decide +kernel) rfl ?_
  refine h_store hx hb hK h2 ho q2 hO1 hS1 (show decode method_7_code 11 = .ok (.lastore, 1) by decide +kernel) (fun H2 locs2 p1 p2 p3 => ?_)
  refine lv_goto (tgt := 23) hx hb (show decode method_7_code 12 = .ok (.goto 11, 3) by decide +kernel) rfl ?_
  refine lv_iconst (v := 0) hx hb (show decode method_7_code 23 = .ok (.iconst 0, 1) by decide +kernel) (by decide) ?_
  exact W.iret hx hb hr (fun t2 ht2 _ => ⟨rfl, by rw [ht2]; exact p1, by rw [ht2]; exact p2, p3.F ht2⟩) p3.2.2 (show decode method_7_code 24 = .ok (.ireturn, 1) by decide +kernel) hlocks

set_option maxRecDepth 100000 in
theorem ht1_pixel {w : z_W} {x : Int64} {i1 : Int32} {i2 : Int32} {i3 : Int32} {rm : Room} (hrc : rm.cells = 1) (hrs : rm.slots = 6) (hrf : rm.frames ≤ 7) (hrl : rm.locals ≤ 200) (hM : t_Met l (zM kP_pixel).1 (z_wm zTs (zM kP_pixel)) rm (x_Pc b cA D tys n0 (zR 0 0 :: [zI i1, zI i2, zI i3]) w) "java/lang/IllegalStateException") :
    Met l yL_pixel wL_pixel { frames := 8, cells := 1, slots := 6, locals := 240 } (h_Pc [.ref (adC b (0, 0)), .int i1, .int i2, .int i3, .ref o] b n0 o cA D tys w x) (h_Qt 1) 1 6 (fun _ => False) := by
  refine va_MetW (cc := method_7_code) (maxL := 6) (ret := some .int) (hh := [(0, 12, 15, 13), (0, 12, 19, 26)]) (by decide) rfl ?_
  intro p e s m args below meth c s₁ B hml hv
  obtain ⟨rfl, hP, hK, hN, hX, hO⟩ := hv
  have hx := B.exec
  have hb := B.bytes
  have hr := B.returns
  have hts0 := atoms_spec (ws := wL_pixel) B.pre
  have hts : ∀ w ∈ zTs, w.before ([.ref (adC b (0, 0)), .int i1, .int i2, .int i3, .ref o] : List Value).toArray s = true := fun w hw => hts0 w (List.mem_cons_of_mem _ hw)
  have hown : s.vm.findClass "PrintHouseLaw" = some m.cls := findClass_of_methodNamed B.named
  have hlocks := B.notSynchronized
  have hl := lv_entry ([.ref (adC b (0, 0)), .int i1, .int i2, .int i3, .ref o]) (n := 6) (Nat.le_of_ble_eq_true rfl)
  rw [lg_entry_eq]
  generalize (lg_sl ([.ref (adC b (0, 0)), .int i1, .int i2, .int i3, .ref o]) ++ List.replicate (6 - (lg_sl ([.ref (adC b (0, 0)), .int i1, .int i2, .int i3, .ref o])).length) Slot.unset).toArray = ls at hl ⊢
  have hl : lv_has ls 6 [(0, .ref (adC b (0, 0))), (1, .int i1), (2, .int i2), (3, .int i3), (4, .ref o)] := hl
  refine lv_aload hx hb (show decode method_7_code 0 = .ok (.aload 4, 2) by decide +kernel) (lv_at hl 4 rfl) ?_
  refine lv_iconst (v := 0) hx hb (show decode method_7_code 2 = .ok (.iconst 0, 1) by decide +kernel) (by decide) ?_
  refine lv_aload_n hx hb (show decode method_7_code 3 = .ok (.aload_n 0, 1) by decide +kernel) rfl (lv_at hl 0 rfl) ?_
  refine lv_iload_n hx hb (show decode method_7_code 4 = .ok (.iload_n 1, 1) by decide +kernel) rfl (lv_at hl 1 rfl) ?_
  refine lv_iload_n hx hb (show decode method_7_code 5 = .ok (.iload_n 2, 1) by decide +kernel) rfl (lv_at hl 2 rfl) ?_
  refine lv_iload_n hx hb (show decode method_7_code 6 = .ok (.iload_n 3, 1) by decide +kernel) rfl (lv_at hl 3 rfl) ?_
  intro T hT X
  obtain ⟨cellB, c1, c2, c3⟩ := va_recv (a := adC b (0, 0)) (q0 := 0) (ci := 0) hK hP rfl rfl
  obtain ⟨m1, m2, m3, m4, m5, m6, m7⟩ := z_mo kP_pixel (by decide)
  obtain ⟨m8, m9, -⟩ := m7 (by decide)
  obtain ⟨q, ce, T', X', q1, q2, q3, q4, q5, st⟩ := t_call (b := adC b (0, 0)) (cellB := cellB) (own := "PrintHouseLaw") (C := "PrintHouse") (index := 28) (bytes := (zM kP_pixel).2.1) (maxL := (zM kP_pixel).2.2.1) (ret := (zM kP_pixel).2.2.2.1) (argsL := [.int i1, .int i2, .int i3]) (rest := [.int 0, .ref o]) (g := F0 m 7 ls [.int i3, .int i2, .int i1, .ref (adC b (0, 0)), .int 0, .ref o]) X hx hM x_Pc.blind hrc hrs (show rm.frames + 1 ≤ 8 by omega) (show 8 + ((zM kP_pixel).2.2.1 + 11) + rm.locals ≤ 240 from Nat.le_trans (Nat.add_le_add_left hrl _) (by decide)) (Nat.le_refl _) (Nat.le_refl _)
    (fun x hx a' U hW => by
      have hxT : x ∈ zTs := by
        rcases List.mem_cons.mp hx with rfl | h
        · exact m3
        · exact h
      exact word_at hW (good_of_word (zTs_good x hxT)) (hts x hxT))
    List.mem_cons_self hown (hts _ (zTs_in _ (by decide +kernel) rfl)) (hts _ m8) (hts _ m9) (hts _ m4) m2 (by rw [hT]; exact c1) c2 c3 rfl (by rw [hml]; exact hl.1)
    (by
      intro sig hsig
      have h8 := m5 sig hsig
      have h9 : (zM kP_pixel).2.2.2.2.1 = 4 := by decide
      rw [h9, if_neg (by decide)] at h8
      show 3 = _
      omega)
    rfl (lv_room (st := [.int 0, .ref o]) (Nat.le_of_ble_eq_true rfl)) (by rw [hb]; exact (show decode method_7_code 7 = .ok (.invokevirtual 28, 3) by decide +kernel))
    (fun U hU hW => ⟨⟨rfl, by rw [hU, hT]; exact hP, va_K.moved hW.alike hK, fun x hx1 => zNs_mv x hx1 s U hW (hN x hx1)⟩, hX.moved hW (fun _ _ => by rw [hU, hT])⟩)
  obtain ⟨m9', meth9, c9, hn9, hm9, hc9, -, -, htab, -, -, -⟩ := Cond.codeWith_spec (hts0 _ List.mem_cons_self)
  cases B.named.symm.trans hn9
  cases B.method.symm.trans hm9
  have hcc : c9 = c := Option.some.inj (hc9.symm.trans X.code)
  subst hcc
  obtain ⟨x0, r0, hx0, e0, htab⟩ := List.map_eq_cons_iff.mp htab
  obtain ⟨x1, hx1, f0⟩ := List.map_eq_singleton_iff.mp htab
  subst hx1
  simp only [Prod.mk.injEq] at e0 f0
  obtain ⟨e1, e2, e3, e4⟩ := e0
  obtain ⟨f1, f2, f3, f4⟩ := f0
  obtain ⟨hend, hk0⟩ := X'.catches_of_link hown (x := x0) (by rw [e4]; decide) (by rw [e4]; exact hts (.classLink "PrintHouseLaw" 13 "java/lang/IllegalStateException") (zTs_in _ (by decide +kernel) rfl)) q3 (Vm.assignable_self _ _)
  obtain ⟨vm', XV, st2⟩ := X'.thenCaughtThrough q (g := F0 m 7 ls [.int 0, .ref o]) rfl (st _ (Steps.refl _)) q1 (by rw [q2]; rfl) hk0 [] x0 [x1] hx0 (fun y hy => by cases hy) (by show covers x0 7 = true; simp [covers, e1, e2]) hend
  rw [e3] at st2
  have K : W p l e { frames := 8, cells := 1, slots := 6, locals := 240 } s m ([.ref (adC b (0, 0)), .int i1, .int i2, .int i3, .ref o] : List Value).toArray below meth c9 T'.heap [] 1 6 (MQ below (h_Qt 1) ([.ref (adC b (0, 0)), .int i1, .int i2, .int i3, .ref o] : List Value).toArray s 1 6 (fun _ => False)) (F0 m 15 ls [.ref q]) := by
    refine lv_astore hx hb (show decode method_7_code 15 = .ok (.astore 5, 2) by decide +kernel) hl (by decide) rfl (fun ls' hl' => ?_)
    refine lv_iconst (v := 1) hx hb (show decode method_7_code 17 = .ok (.iconst 1, 1) by decide +kernel) (by decide) ?_
    exact W.iret hx hb hr (fun t2 ht2 _ => ⟨rfl, by rw [ht2, ← hT]; exact q4, fun q9 h9 _ => by rw [ht2, ← hT]; exact q5 q9 (by rw [hT]; exact h9)⟩) (fun _ h => by cases h) (show decode method_7_code 18 = .ok (.ireturn, 1) by decide +kernel) hlocks
  obtain ⟨t2, a1, b1⟩ := K (T'.setVm vm') rfl XV
  exact ⟨t2, st2.trans a1, b1⟩

set_option maxRecDepth 100000 in
theorem ht2_pixel {w : z_W} {x : Int64} {i1 : Int32} {i2 : Int32} {i3 : Int32} {rm : Room} (hrc : rm.cells = 1) (hrs : rm.slots = 6) (hrf : rm.frames ≤ 7) (hrl : rm.locals ≤ 200) (hM : t_Met l (zM kP_pixel).1 (z_wm zTs (zM kP_pixel)) rm (x_Pc b cA D tys n0 (zR 0 0 :: [zI i1, zI i2, zI i3]) w) "java/lang/IndexOutOfBoundsException") :
    Met l yL_pixel wL_pixel { frames := 8, cells := 1, slots := 6, locals := 240 } (h_Pc [.ref (adC b (0, 0)), .int i1, .int i2, .int i3, .ref o] b n0 o cA D tys w x) (h_Qt 2) 1 6 (fun _ => False) := by
  refine va_MetW (cc := method_7_code) (maxL := 6) (ret := some .int) (hh := [(0, 12, 15, 13), (0, 12, 19, 26)]) (by decide) rfl ?_
  intro p e s m args below meth c s₁ B hml hv
  obtain ⟨rfl, hP, hK, hN, hX, hO⟩ := hv
  have hx := B.exec
  have hb := B.bytes
  have hr := B.returns
  have hts0 := atoms_spec (ws := wL_pixel) B.pre
  have hts : ∀ w ∈ zTs, w.before ([.ref (adC b (0, 0)), .int i1, .int i2, .int i3, .ref o] : List Value).toArray s = true := fun w hw => hts0 w (List.mem_cons_of_mem _ hw)
  have hown : s.vm.findClass "PrintHouseLaw" = some m.cls := findClass_of_methodNamed B.named
  have hlocks := B.notSynchronized
  have hl := lv_entry ([.ref (adC b (0, 0)), .int i1, .int i2, .int i3, .ref o]) (n := 6) (Nat.le_of_ble_eq_true rfl)
  rw [lg_entry_eq]
  generalize (lg_sl ([.ref (adC b (0, 0)), .int i1, .int i2, .int i3, .ref o]) ++ List.replicate (6 - (lg_sl ([.ref (adC b (0, 0)), .int i1, .int i2, .int i3, .ref o])).length) Slot.unset).toArray = ls at hl ⊢
  have hl : lv_has ls 6 [(0, .ref (adC b (0, 0))), (1, .int i1), (2, .int i2), (3, .int i3), (4, .ref o)] := hl
  refine lv_aload hx hb (show decode method_7_code 0 = .ok (.aload 4, 2) by decide +kernel) (lv_at hl 4 rfl) ?_
  refine lv_iconst (v := 0) hx hb (show decode method_7_code 2 = .ok (.iconst 0, 1) by decide +kernel) (by decide) ?_
  refine lv_aload_n hx hb (show decode method_7_code 3 = .ok (.aload_n 0, 1) by decide +kernel) rfl (lv_at hl 0 rfl) ?_
  refine lv_iload_n hx hb (show decode method_7_code 4 = .ok (.iload_n 1, 1) by decide +kernel) rfl (lv_at hl 1 rfl) ?_
  refine lv_iload_n hx hb (show decode method_7_code 5 = .ok (.iload_n 2, 1) by decide +kernel) rfl (lv_at hl 2 rfl) ?_
  refine lv_iload_n hx hb (show decode method_7_code 6 = .ok (.iload_n 3, 1) by decide +kernel) rfl (lv_at hl 3 rfl) ?_
  intro T hT X
  obtain ⟨cellB, c1, c2, c3⟩ := va_recv (a := adC b (0, 0)) (q0 := 0) (ci := 0) hK hP rfl rfl
  obtain ⟨m1, m2, m3, m4, m5, m6, m7⟩ := z_mo kP_pixel (by decide)
  obtain ⟨m8, m9, -⟩ := m7 (by decide)
  obtain ⟨q, ce, T', X', q1, q2, q3, q4, q5, st⟩ := t_call (b := adC b (0, 0)) (cellB := cellB) (own := "PrintHouseLaw") (C := "PrintHouse") (index := 28) (bytes := (zM kP_pixel).2.1) (maxL := (zM kP_pixel).2.2.1) (ret := (zM kP_pixel).2.2.2.1) (argsL := [.int i1, .int i2, .int i3]) (rest := [.int 0, .ref o]) (g := F0 m 7 ls [.int i3, .int i2, .int i1, .ref (adC b (0, 0)), .int 0, .ref o]) X hx hM x_Pc.blind hrc hrs (show rm.frames + 1 ≤ 8 by omega) (show 8 + ((zM kP_pixel).2.2.1 + 11) + rm.locals ≤ 240 from Nat.le_trans (Nat.add_le_add_left hrl _) (by decide)) (Nat.le_refl _) (Nat.le_refl _)
    (fun x hx a' U hW => by
      have hxT : x ∈ zTs := by
        rcases List.mem_cons.mp hx with rfl | h
        · exact m3
        · exact h
      exact word_at hW (good_of_word (zTs_good x hxT)) (hts x hxT))
    List.mem_cons_self hown (hts _ (zTs_in _ (by decide +kernel) rfl)) (hts _ m8) (hts _ m9) (hts _ m4) m2 (by rw [hT]; exact c1) c2 c3 rfl (by rw [hml]; exact hl.1)
    (by
      intro sig hsig
      have h8 := m5 sig hsig
      have h9 : (zM kP_pixel).2.2.2.2.1 = 4 := by decide
      rw [h9, if_neg (by decide)] at h8
      show 3 = _
      omega)
    rfl (lv_room (st := [.int 0, .ref o]) (Nat.le_of_ble_eq_true rfl)) (by rw [hb]; exact (show decode method_7_code 7 = .ok (.invokevirtual 28, 3) by decide +kernel))
    (fun U hU hW => ⟨⟨rfl, by rw [hU, hT]; exact hP, va_K.moved hW.alike hK, fun x hx1 => zNs_mv x hx1 s U hW (hN x hx1)⟩, hX.moved hW (fun _ _ => by rw [hU, hT])⟩)
  obtain ⟨m9', meth9, c9, hn9, hm9, hc9, -, -, htab, -, -, -⟩ := Cond.codeWith_spec (hts0 _ List.mem_cons_self)
  cases B.named.symm.trans hn9
  cases B.method.symm.trans hm9
  have hcc : c9 = c := Option.some.inj (hc9.symm.trans X.code)
  subst hcc
  obtain ⟨x0, r0, hx0, e0, htab⟩ := List.map_eq_cons_iff.mp htab
  obtain ⟨x1, hx1, f0⟩ := List.map_eq_singleton_iff.mp htab
  subst hx1
  simp only [Prod.mk.injEq] at e0 f0
  obtain ⟨e1, e2, e3, e4⟩ := e0
  obtain ⟨f1, f2, f3, f4⟩ := f0
  have hpass : ∀ y ∈ [x0], RowPassed e.platform s m.cls 7 ce.cls y := by
    intro y hy
    rw [List.mem_singleton] at hy
    subst hy
    have hpl : e.platform.magicAccessors = ({} : Platform).magicAccessors := by rw [X'.admits.platform]
    obtain ⟨c', hc', hcl⟩ := Cond.classLink_spec hown (hts (.classLink "PrintHouseLaw" 13 "java/lang/IllegalStateException") (zTs_in _ (by decide +kernel) rfl)) e.platform hpl
    obtain ⟨cE, tE, n1, n2, n3⟩ := hX.2.2.2
    cases n1.symm.trans q3
    cases n2.symm.trans hc'
    exact Or.inr ⟨by rw [e4]; decide, _, by rw [e4]; exact hcl, n3⟩
  obtain ⟨hend, hk0⟩ := X'.catches_of_link hown (x := x1) (by rw [f4]; decide) (by rw [f4]; exact hts (.classLink "PrintHouseLaw" 26 "java/lang/IndexOutOfBoundsException") (zTs_in _ (by decide +kernel) rfl)) q3 (Vm.assignable_self _ _)
  obtain ⟨vm', XV, st2⟩ := X'.thenCaughtThrough q (g := F0 m 7 ls [.int 0, .ref o]) rfl (st _ (Steps.refl _)) q1 (by rw [q2]; rfl) hk0 [x0] x1 [] hx0 hpass (by show covers x1 7 = true; simp [covers, f1, f2]) hend
  rw [f3] at st2
  have K : W p l e { frames := 8, cells := 1, slots := 6, locals := 240 } s m ([.ref (adC b (0, 0)), .int i1, .int i2, .int i3, .ref o] : List Value).toArray below meth c9 T'.heap [] 1 6 (MQ below (h_Qt 2) ([.ref (adC b (0, 0)), .int i1, .int i2, .int i3, .ref o] : List Value).toArray s 1 6 (fun _ => False)) (F0 m 19 ls [.ref q]) := by
    refine lv_astore hx hb (show decode method_7_code 19 = .ok (.astore 5, 2) by decide +kernel) hl (by decide) rfl (fun ls' hl' => ?_)
    refine lv_iconst (v := 2) hx hb (show decode method_7_code 21 = .ok (.iconst 2, 1) by decide +kernel) (by decide) ?_
    exact W.iret hx hb hr (fun t2 ht2 _ => ⟨rfl, by rw [ht2, ← hT]; exact q4, fun q9 h9 _ => by rw [ht2, ← hT]; exact q5 q9 (by rw [hT]; exact h9)⟩) (fun _ h => by cases h) (show decode method_7_code 22 = .ok (.ireturn, 1) by decide +kernel) hlocks
  obtain ⟨t2, a1, b1⟩ := K (T'.setVm vm') rfl XV
  exact ⟨t2, st2.trans a1, b1⟩

end HLQ
