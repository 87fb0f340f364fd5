/-! a house that is down refuses -/
section TRF
variable {l : Launch} {b n0 : Nat} {cA : Nat → ClassId} {D : va_G} {tys : List (ClassId × FieldType)}
def zCp (mi pc : Nat) : Option z_I := if pc = 0 then zCr mi pc else none
theorem zCp_in {mi pc : Nat} {I : z_I} (h : zCp mi pc = some I) : zCr mi pc = some I := by
  unfold zCp at h
  split at h
  · exact h
  · cases h
theorem z_okCp {ad : z_N → Nat} {A : Nat → Prop} (h1 : tys[0]? = some (cA 0, .int)) (h2 : tys[1]? = some (cA 1, .long)) (h3 : tys[2]? = some (cA 2, .object "PrintHouse$Job")) : z_OK sC zfk ad cA zcl tys A zTs lw_tbl zNs "PrintHouse$Job" "PrintHouse" znM zM zCp :=
  ⟨⟨zTs_in, zNs_in⟩, zTs_good, zNs_on, zNs_mv, ⟨sCn_nd, sCr_in⟩, ⟨fun _ _ => h1, fun _ _ => h2, fun _ _ => h3⟩, z_clok, fun mi pc I _ hC hw => (by rw [(zCr_in (zCp_in hC)).2] at hw; cases hw), z_mo, fun mi pc I hm hC => z_co mi hm pc I (zCr_in (zCp_in hC)).1⟩
theorem zR00_v : z_vs sC [zR 0 0] := by
  intro v hv
  rcases List.mem_cons.mp hv with rfl | hv
  · show ((0, 0) : z_N) ∈ sCn
    decide +kernel
  · cases hv
theorem k_isUp {w : z_W} {Q : z_W → Option z_V → Prop} (hb : w.1 11 0 2 = 0 ∨ w.1 11 0 2 = 1) (hq : Q w (some (zI (w.1 11 0 2)))) : z_C sC zM zCr kD_isUp (0, [some (zR 11 0)], [], w) Q := by
  refine z_C.go 2 rfl ?_
  exact z_C.ret rfl (if_pos (Or.inr hb)) hq
set_option maxRecDepth 100000 in
theorem t_refuse (hl : l.stackTraces = false) (h1 : tys[0]? = some (cA 0, .int)) (h2 : tys[1]? = some (cA 1, .long)) (h3 : tys[2]? = some (cA 2, .object "PrintHouse$Job")) {w : z_W} (hvw : z_vw sC w) (hd : w.1 11 0 2 = 0) :
    t_Met l (zM kP_refuseIfDown).1 (z_wm zTs (zM kP_refuseIfDown)) { frames := 6, cells := 1, slots := 6, locals := 130 } (x_Pc b cA D tys n0 [zR 0 0] w) "java/lang/IllegalStateException" := by
  refine t_road hl h1 h2 h3 (k := kP_refuseIfDown) (by decide) zR00_v hvw (by decide) (by decide +kernel) (by decide) (by decide) (pc := 10) (L := [some (zR 0 0)]) ?_ (text := "the house is down") (ik := 179) (is := 181) (ic := 183) (by decide +kernel)
    (zTs_in _ (by decide +kernel) rfl) (zTs_in _ (by decide +kernel) rfl) t_atI (fun U hU => hU.2.2.1.1) (by decide +kernel) (by decide +kernel) (by decide +kernel) (by decide +kernel) (by decide +kernel)
  refine z_K.go 2 rfl ?_
  refine z_K.call rfl rfl ?_
  refine k_isUp (Or.inl hd) ?_
  refine z_K.go1 rfl rfl ?_
  refine z_K.if (fun _ => ?_) (fun h => absurd hd h)
  exact z_K.nil rfl
set_option maxRecDepth 100000 in
theorem t_prop (hl : l.stackTraces = false) (h1 : tys[0]? = some (cA 0, .int)) (h2 : tys[1]? = some (cA 1, .long)) (h3 : tys[2]? = some (cA 2, .object "PrintHouse$Job")) {w : z_W} (hvw : z_vw sC w) (hd : w.1 11 0 2 = 0)
    {k : Nat} (hk : k < znM) {as : List z_V} (hva : z_vs sC as) (hal : (z_args as).length ≤ (zM k).2.2.1) (hown9 : (zM k).1.cls = "PrintHouse") (hf9 : (zM k).2.2.2.2.2.2.1 ≤ 7) (hl9 : (zM k).2.2.2.2.2.2.2 ≤ 200)
    {L : z_L} (hreach : z_K sC zM zCp k (0, z_entry (zM k).2.2.1 as, [], w) (1, L, [zR 0 0], w)) (d1 : decode (zM k).2.1 1 = .ok (.invokevirtual 75, 3)) :
    t_Met l (zM k).1 (z_wm zTs (zM k)) { frames := 7, cells := 1, slots := 6, locals := 200 } (x_Pc b cA D tys n0 as w) "java/lang/IllegalStateException" := by
  have ok := z_okCp (ad := adC b) (A := fun _ => False) h1 h2 h3
  have hmo := z_mo k hk
  refine t_ofW (cc := (zM k).2.1) (maxL := (zM k).2.2.1) (ret := (zM k).2.2.2.1) hmo.1 rfl ?_
  intro p e s m args below meth c s₁ B hml hempty hv
  obtain ⟨⟨rfl, hP, hK, hN⟩, hX⟩ := hv
  have hts0 := atoms_spec (ws := z_wm zTs (zM k)) B.pre
  have hts : ∀ w ∈ zTs, w.before (as.map (z_v (adC b))).toArray s = true := fun w hw => hts0 w (List.mem_cons_of_mem _ hw)
  have hown : s.vm.findClass (zM k).1.cls = some m.cls := findClass_of_methodNamed B.named
  have hownP : s.vm.findClass "PrintHouse" = some m.cls := by rw [← hown9]; exact hown
  obtain ⟨n, hn⟩ := hreach
  rw [lg_entry_eq]
  refine z_wstk ok hk B.exec B.bytes hml hown hts hN hK (show _ ≤ 7 from hf9) (show _ ≤ 200 from hl9) (f' := (1, L, [zR 0 0], w)) (fun ls H locs g1 g2 g3 => ?_) n (0, z_entry (zM k).2.2.1 as, [], w) hn (fun _ hx => by cases hx) (z_vL.entry hva) hvw _ _ [] (z_entry_hl (adC b) as hal) hP va_S.rf
  intro T hT X
  have hlocs : locs = [] := by
    cases locs with
    | nil => rfl
    | cons x r => exact absurd (g3.2.2 x List.mem_cons_self) id
  subst hlocs
  have hheap : T.heap = s.heap := by
    have z1 : T.heap.size = s.heap.size := by
      have a1 := X.same.2.2.1
      have a2 := g3.1
      rw [← hT] at a2
      have a3 : (T.setVm s.vm).heap.size = T.heap.size := rfl
      omega
    apply Array.ext_getElem?
    intro i
    by_cases hi : i < s.heap.size
    · rw [hT]
      exact g3.2.1 i hi (fun h => h)
    · rw [Array.getElem?_eq_none (by omega), Array.getElem?_eq_none (by omega)]
  have hrec := va_recv (a := adC b (0, 0)) (q0 := 0) (ci := 0) hK hP rfl rfl
  obtain ⟨cellB, c1, c2, c3⟩ := hrec
  have hM := t_refuse (b := b) (n0 := n0) (D := D) hl h1 h2 h3 hvw hd
  obtain ⟨m1, m2, m3, m4, m5, m6, m7⟩ := z_mo kP_refuseIfDown (by decide)
  obtain ⟨m8, m9, -⟩ := m7 (by decide)
  obtain ⟨q, ce, T', X', q1, q2, q3, q4, q5, st⟩ := t_call (b := adC b (0, 0)) (cellB := cellB) (own := "PrintHouse") (C := "PrintHouse") (index := 75) (bytes := (zM kP_refuseIfDown).2.1) (maxL := (zM kP_refuseIfDown).2.2.1) (ret := (zM kP_refuseIfDown).2.2.2.1) (argsL := []) (rest := []) (g := F0 m 1 ls [z_v (adC b) (zR 0 0)]) X B.exec hM x_Pc.blind rfl rfl (Nat.le_refl _) (show 8 + (1 + 11) + 130 ≤ 200 by omega) (Nat.le_refl _) (Nat.le_refl _)
    (fun x hx a' U hW => by
      have hxT : x ∈ zTs := by
        rcases List.mem_cons.mp hx with rfl | h
        · exact m3
        · exact h
      exact word_at hW (good_of_word (zTs_good x hxT)) (hts x hxT))
    List.mem_cons_self hownP (hts _ (zTs_in _ (by decide +kernel) rfl)) (hts _ m8) (hts _ m9) (hts _ m4) m2 (by rw [hheap]; exact c1) c2 c3 rfl (by rw [hml]; exact g1.1)
    (by
      intro sig hsig
      have := m5 sig hsig
      have h9 : (zM kP_refuseIfDown).2.2.2.2.1 = 1 := by decide
      rw [h9, if_neg (by decide)] at this
      show 0 = _
      omega)
    rfl (lv_room (st := []) (by decide)) (by rw [B.bytes]; exact d1)
    (fun U hU hW => ⟨⟨rfl, by rw [hU, hheap]; exact hP, va_K.moved hW.alike hK, fun x hx1 => zNs_mv x hx1 s U hW (hN x hx1)⟩, hX.moved hW (fun _ _ => by rw [hU, hheap])⟩)
  obtain ⟨t, t1, t2⟩ := t_out X' (g := F0 m 1 ls []) rfl rfl rfl hempty B.notSynchronized q1 q2 q3
  exact ⟨t, st _ t1, t2⟩
end TRF
