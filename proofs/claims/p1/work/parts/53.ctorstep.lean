section YS
variable {p : Program} {l : Launch} {e : Env} {R : Room} {s : State} {m : MethodId} {args : Array Value} {below : List Frame} {meth : Method} {c : Code} {H : Heap} {locs : List Loc} {cells slots : Nat} {Q : State → Prop}
variable {fk : Nat → List Nat} {b : Nat} {cA : Nat → ClassId} {D : va_G} {cl : List vw_C} {tys : List (ClassId × FieldType)} {H0 : Heap} {Ts Ws : List Jvm.Cond} {jn own : String} {cc : ByteArray} {nM : Nat} {M : Nat → z_M}
theorem y_S_new {A : Nat → Prop} {H1 : Heap} {q : Nat} (hS : va_S A H0 H locs) (hq : H.size = q) (hz : H1.size = q + 1) (o1 : ∀ x, x < q → H1[x]? = H[x]?) : va_S A H0 H1 locs := by
  refine ⟨by have := hS.1; omega, fun x h1 h2 => ?_, hS.2.2⟩
  rw [o1 x (by have := hS.1; omega)]
  exact hS.2.1 x h1 h2
theorem y_S_mono {A : Nat → Prop} {locs' : List Loc} (hS : va_S A H0 H locs) (h : ∀ x ∈ locs', x ∈ locs) : va_S A H0 H locs' := ⟨hS.1, hS.2.1, fun x hx => hS.2.2 x (h x hx)⟩
set_option maxHeartbeats 4000000 in
set_option maxRecDepth 100000 in
theorem y_next (hx : p.tables.exec = Jvm.exec) (hb : c.code = cc) (hown : s.vm.findClass own = some m.cls) (hnm : meth.name = "<init>") (hts : ∀ w ∈ Ts, w.before args s = true) (hWs : ∀ w ∈ Ws, goodWord w = true → w ∈ Ts) (hK : va_K D cl tys s) (hAO : va_AO jn s)
    (hty1 : tys[0]? = some (cA 0, .int)) (hty2 : tys[1]? = some (cA 1, .long)) (hty3 : tys[2]? = some (cA 2, .object jn)) (hCL : z_CL cl fk Ts)
    (hDK : ∀ ci C T N, cl[ci]? = some (C, T, N) → (∀ j, j < N → (parseFieldDescriptor (T j).2.2.1).map defaultValue = some (if (fk ci).getD j 0 = 2 then .null else .int 0)) ∧ Jvm.Cond.instantiable C N ∈ Ts ∧ Jvm.Cond.initialized C ∈ Ts)
    (hAC : Jvm.Cond.arrayClass .int ∈ Ts ∧ Jvm.Cond.arrayClass .long ∈ Ts) (hOB : Jvm.Cond.instanceMethod Lib.objectInit ∈ Ts ∧ Jvm.Cond.code Lib.objectInit ⟨#[0xb1]⟩ 1 none ∈ Ts)
    {nL pc pc' : Nat} {I : z_I} {L L' : z_L} {st st' : List z_V} {h h' : y_H} {ls : Array Slot} (hml : c.maxLocals = nL)
    (hchk : y_chk cl fk nM M Ws jn own cc R.frames R.locals pc I = true) (hstep : y_step fk M I pc L st h = some (.inl (pc', L', st', h')))
    (hl : z_hl (y_ad b) ls nL L) (hsz : H.size = b + h.length) (hP : va_P D cl (y_ws b cA h) H) (hS : va_S (fun q => b ≤ q) H0 H locs)
    (hrc : cells + (h'.length - h.length) ≤ R.cells) (hrs : slots + (y_sum h' - y_sum h) ≤ R.slots)
    (kk : ∀ (ls' : Array Slot) (H' : Heap) (locs' : List Loc), z_hl (y_ad b) ls' nL L' → H'.size = b + h'.length → va_P D cl (y_ws b cA h') H' → va_S (fun q => b ≤ q) H0 H' locs' → W p l e R s m args below meth c H' locs' (cells + (h'.length - h.length)) (slots + (y_sum h' - y_sum h)) Q (F0 m pc' ls' (st'.map (z_v (y_ad b))))) :
    W p l e R s m args below meth c H locs cells slots Q (F0 m pc ls (st.map (z_v (y_ad b)))) := by
  have hD : va_D (fun q => b ≤ q) (y_ws b cA h) := y_ws_D (fun _ h => h)
  have kk0 : h' = h → ∀ (ls' : Array Slot), z_hl (y_ad b) ls' nL L' → W p l e R s m args below meth c H locs cells slots Q (F0 m pc' ls' (st'.map (z_v (y_ad b)))) := by
    intro he ls' h1
    subst he
    exact W.cs (by omega) (by omega) (kk ls' H locs h1 hsz hP hS)
  have nn : ∀ z : Int32, 0 ≤ z.toInt → ¬ z < 0 ∧ ((z.toNatClampNeg : Nat) : Int) = z.toInt := by
    intro z hz
    refine ⟨fun h => ?_, ?_⟩
    · have := Int32.lt_iff_toInt_lt.mp h
      rw [Int32.toInt_zero] at this
      omega
    · show ((z.toInt.toNat : Nat) : Int) = z.toInt
      omega
  obtain ⟨ins, len, a, b1, t, q, c0, d⟩ := I
  unfold y_chk at hchk
  rw [Bool.and_eq_true, decide_eq_true_eq] at hchk
  obtain ⟨hd, hchk⟩ := hchk
  dsimp only at hd hchk
  cases ins
  case iconst n =>
    simp only [y_step] at hstep
    cases hstep
    simp only [Bool.and_eq_true, decide_eq_true_eq] at hchk
    obtain ⟨rfl, h2⟩ := hchk
    exact lv_iconst hx hb hd h2 (kk0 rfl ls hl)
  case bipush n =>
    simp only [y_step] at hstep
    cases hstep
    simp only [Bool.and_eq_true, decide_eq_true_eq] at hchk
    obtain ⟨rfl, h2⟩ := hchk
    exact lv_bipush hx hb hd h2 (kk0 rfl ls hl)
  case sipush n =>
    simp only [y_step] at hstep
    cases hstep
    simp only [Bool.and_eq_true, decide_eq_true_eq] at hchk
    obtain ⟨rfl, h2⟩ := hchk
    exact lv_sipush hx hb hd h2 (kk0 rfl ls hl)
  case iload_n k =>
    simp only [y_step] at hstep
    split at hstep
    · rename_i x hv
      cases hstep
      simp only [decide_eq_true_eq] at hchk
      subst hchk
      exact lv_iload_n hx hb hd rfl (z_ld_at hl hv) (kk0 rfl ls hl)
    · cases hstep
  case aload_n k =>
    simp only [y_step] at hstep
    split at hstep
    · rename_i x hv
      cases hstep
      simp only [decide_eq_true_eq] at hchk
      subst hchk
      exact lv_aload_n hx hb hd rfl (z_ld_at hl hv) (kk0 rfl ls hl)
    · cases hstep
  case istore_n k =>
    simp only [y_step] at hstep
    split at hstep
    · split at hstep
      · rename_i hk
        cases hstep
        simp only [decide_eq_true_eq] at hchk
        subst hchk
        exact lv_istore_n hx hb hd rfl hl.has (hl.2.2.1 ▸ hk) rfl (fun ls' h9 => kk0 rfl ls' (hl.st1 h9))
      · cases hstep
    · cases hstep
  case iinc k n =>
    simp only [y_step] at hstep
    split at hstep
    · rename_i x hv
      split at hstep
      · rename_i hk
        cases hstep
        simp only [Bool.and_eq_true, decide_eq_true_eq] at hchk
        obtain ⟨rfl, h2⟩ := hchk
        obtain ⟨j, hj⟩ := z_ld_as (ad := y_ad b) hv
        exact lv_iinc hx hb hd hl.has hj (by rw [h2]) (hl.2.2.1 ▸ hk) rfl (fun ls' h9 => kk0 rfl ls' (hl.st1 h9))
      · cases hstep
    · cases hstep
  case dup =>
    simp only [y_step] at hstep
    split at hstep
    · cases hstep
      simp only [decide_eq_true_eq] at hchk
      subst hchk
      exact lv_dup hx hb hd rfl (kk0 rfl ls hl)
    · cases hstep
  case if_icmp cnd off =>
    cases cnd
    case ge =>
      simp only [y_step] at hstep
      simp only [Bool.and_eq_true, decide_eq_true_eq] at hchk
      obtain ⟨rfl, h2⟩ := hchk
      split at hstep
      · cases hstep
        have kk1 := kk0 rfl ls hl
        exact lv_icmp_ge hx hb hd h2 (fun h => by rw [if_pos h] at kk1; exact kk1) (fun h => by rw [if_neg h] at kk1; exact kk1)
      · cases hstep
    all_goals (simp only [y_step] at hstep; cases hstep)
  case goto off =>
    simp only [y_step] at hstep
    cases hstep
    simp only [Bool.and_eq_true, decide_eq_true_eq] at hchk
    obtain ⟨rfl, h2⟩ := hchk
    exact lv_goto hx hb hd h2 (kk0 rfl ls hl)
  case new i =>
    simp only [y_step] at hstep
    cases hstep
    rw [Bool.and_eq_true, decide_eq_true_eq] at hchk
    obtain ⟨rfl, h2⟩ := hchk
    split at h2
    · rename_i C T N hc
      rw [decide_eq_true_eq] at h2
      obtain ⟨g1, g2, ⟨ty0, g3⟩, -⟩ := hCL a C T N hc
      obtain ⟨k1, k2, k3⟩ := hDK a C T N hc
      have hN : y_sl (.inl (a, (fk a).map (fun k => if k = 2 then ((.inr (.inr none)) : z_V) else (.inl 0)))) = N := by
        show ((fk a).map _).length = N
        rw [List.length_map]
        exact g2
      rw [y_sum_push, hN] at hrs
      rw [List.length_append, List.length_singleton] at hrc
      refine y_new hx hb hts g1 ty0 g3 hown (hts _ (hWs _ (List.mem_of_getElem? h2) rfl)) (hts _ k2) (hts _ k3) hK hP hc (fs := ((fk a).map (fun k => if k = 2 then ((.inr (.inr none)) : z_V) else (.inl 0))).map (z_v (y_ad b))) (fun j hj => ?_) (by omega) (by omega) hd hsz (fun H1 z1 p1 o1 => ?_)
      · have h9 := k1 j hj
        rw [g3 j hj] at h9
        have h9 : defaultValue (ty0 j) = if (fk a).getD j 0 = 2 then .null else .int 0 := by simpa using h9
        have hlt : j < (fk a).length := by omega
        rw [h9]
        unfold vp_V
        simp only [List.getD, List.getElem?_map, List.getElem?_eq_getElem hlt, Option.map_some, Option.getD_some]
        split <;> rfl
      · refine W.cs (by rw [List.length_append, List.length_singleton]; omega) (by rw [y_sum_push, hN]; omega) (kk ls H1 locs hl ?_ ?_ (y_S_new hS hsz z1 o1))
        · rw [z1, List.length_append, List.length_singleton]
          omega
        · rw [y_ws_push]
          exact p1
    · cases h2
  case newarray ty =>
    simp only [y_step] at hstep
    simp only [decide_eq_true_eq] at hchk
    subst hchk
    split at hstep
    · rename_i n r
      split at hstep
      · rename_i hn
        split at hstep
        · cases hstep
          have hR := (hK.2 0 _ hty1).2
          have e3 := (nn n hn.1).2
          rw [y_sum_push] at hrs
          rw [List.length_append, List.length_singleton] at hrc
          have hN : y_sl (.inr (.inl n.toNatClampNeg)) = n.toNatClampNeg := rfl
          rw [hN] at hrs
          refine y_newa (atype := .int) hx hb (hts _ hAC.1) (show s.vm.findClass ("[" ++ FieldType.int.toString) = some (cA 0) from hR) hP (a0 := (n.toNatClampNeg, .inl (fun _ => 0))) (fun _ => rfl) (nn n hn.1).1 rfl (by show n.toNatClampNeg * 4 ≤ _; omega) (by omega) (by omega) hd hsz (fun H1 z1 p1 o1 => ?_)
          refine W.cs (by rw [List.length_append, List.length_singleton]; omega) (by rw [y_sum_push, hN]; omega) (kk ls H1 locs hl ?_ ?_ (y_S_new hS hsz z1 o1))
          · rw [z1, List.length_append, List.length_singleton]
            omega
          · rw [y_ws_push]
            exact p1
        · cases hstep
          have hR := (hK.2 1 _ hty2).2
          have e3 := (nn n hn.1).2
          rw [y_sum_push] at hrs
          rw [List.length_append, List.length_singleton] at hrc
          have hN : y_sl (.inr (.inr (.inl n.toNatClampNeg))) = n.toNatClampNeg := rfl
          rw [hN] at hrs
          refine y_newa (atype := .long) hx hb (hts _ hAC.2) (show s.vm.findClass ("[" ++ FieldType.long.toString) = some (cA 1) from hR) hP (a0 := (n.toNatClampNeg, .inr (.inl (fun _ => 0)))) (fun _ => rfl) (nn n hn.1).1 rfl (by show n.toNatClampNeg * 8 ≤ _; omega) (by omega) (by omega) hd hsz (fun H1 z1 p1 o1 => ?_)
          refine W.cs (by rw [List.length_append, List.length_singleton]; omega) (by rw [y_sum_push, hN]; omega) (kk ls H1 locs hl ?_ ?_ (y_S_new hS hsz z1 o1))
          · rw [z1, List.length_append, List.length_singleton]
            omega
          · rw [y_ws_push]
            exact p1
        · cases hstep
      · cases hstep
    · cases hstep
  case anewarray i =>
    simp only [y_step] at hstep
    simp only [Bool.and_eq_true, decide_eq_true_eq] at hchk
    obtain ⟨rfl, h2⟩ := hchk
    split at hstep
    · rename_i n r
      split at hstep
      · rename_i hn
        cases hstep
        obtain ⟨kA, comp, f1, f2, f3, f4⟩ := (hK.2 2 _ hty3).2
        have e3 := (nn n hn.1).2
        rw [y_sum_push] at hrs
        rw [List.length_append, List.length_singleton] at hrc
        have hN : y_sl (.inr (.inr (.inr (List.replicate n.toNatClampNeg none)))) = n.toNatClampNeg := by
          show (List.replicate n.toNatClampNeg none).length = _
          rw [List.length_replicate]
        rw [hN] at hrs
        refine y_newq hx hb hown (hts _ (hWs _ (List.mem_of_getElem? h2) rfl)) hAO f4 hP (nn n hn.1).1 rfl (by omega) (by omega) (by omega) hd hsz (fun H1 z1 p1 o1 => ?_)
        refine W.cs (by rw [List.length_append, List.length_singleton]; omega) (by rw [y_sum_push, hN]; omega) (kk ls H1 locs hl ?_ ?_ (y_S_new hS hsz z1 o1))
        · rw [z1, List.length_append, List.length_singleton]
          omega
        · rw [y_ws_push]
          have e9 : y_cell b cA (.inr (.inr (.inr (List.replicate n.toNatClampNeg none)))) = .inl (cA 2, n.toNatClampNeg, .inr (.inr (.inr (.inr (fun _ => none))))) := by
            show Sum.inl (cA 2, (List.replicate n.toNatClampNeg none).length, _) = _
            rw [List.length_replicate]
            congr 7
            funext j
            by_cases hj : j < n.toNatClampNeg
            · simp [List.getD, hj]
            · simp [List.getD, hj]
          rw [e9]
          exact p1
      · cases hstep
    · cases hstep
  case getfield i =>
    simp only [y_step] at hstep
    simp only [Bool.and_eq_true, decide_eq_true_eq] at hchk
    obtain ⟨⟨rfl, h2⟩, hq⟩ := hchk
    unfold z_cf at h2
    split at h2
    · rename_i C T N hc
      simp only [Bool.and_eq_true, decide_eq_true_eq] at h2
      obtain ⟨⟨⟨hb1, hb2⟩, hb3⟩, hb4⟩ := h2
      rw [if_pos hq, decide_eq_true_eq] at hb4
      obtain ⟨g1, g2, -, -⟩ := hCL a C T N hc
      split at hstep
      · rename_i g o r
        split at hstep
        · rename_i ci fs ho
          split at hstep
          · rename_i hca
            split at hstep
            · rename_i x hf
              cases hstep
              subst hca
              have he := y_ws_at (b := b) (cA := cA) ho
              exact va_get hx hb hts g1 hown hK hP o he hc b1 hb1 (hts _ (hWs _ (List.mem_of_getElem? hb4) rfl)) (fun x h9 => by rw [hb2] at h9; exact h9) (v := .ref (y_ad b x)) (by rw [List.getElem?_map, hf]; rfl) hd (kk0 rfl ls hl)
            · cases hstep
          · cases hstep
        · cases hstep
      · cases hstep
    · cases h2
  case putfield i =>
    simp only [y_step] at hstep
    rw [Bool.and_eq_true, Bool.and_eq_true, Bool.and_eq_true, decide_eq_true_eq, decide_eq_true_eq] at hchk
    obtain ⟨⟨⟨rfl, h2⟩, hq⟩, h3⟩ := hchk
    unfold z_cf at h2
    split at h2
    · rename_i C T N hc
      rw [hc] at h3
      simp only [Bool.and_eq_true, decide_eq_true_eq] at h2
      dsimp only at h3
      rw [Bool.and_eq_true, decide_eq_true_eq] at h3
      obtain ⟨⟨⟨hb1, hb2⟩, hb3⟩, hb4⟩ := h2
      obtain ⟨hCo, hty⟩ := h3
      rw [if_pos hq, decide_eq_true_eq] at hb4
      obtain ⟨g1, g2, ⟨ty0, g3⟩, g4⟩ := hCL a C T N hc
      split at hstep
      · rename_i v g o r
        split at hstep
        · rename_i ci fs ho
          split at hstep
          · rename_i hca
            obtain ⟨hca, hbl⟩ := hca
            subst hca
            have he := y_ws_at (b := b) (cA := cA) ho
            have fin : ∀ (ty : FieldType) (u : z_V), parseFieldDescriptor (T b1).2.2.1 = some ty → narrow ty (z_v (y_ad b) u) = z_v (y_ad b) u → fits ty (z_v (y_ad b) u) = true → h' = h.set o (.inl (ci, fs.set b1 u)) → L' = L → st' = r → pc' = pc + 3 → W p l e R s m args below meth c H locs cells slots Q (F0 m pc ls (z_v (y_ad b) u :: Value.ref (y_ad b (g, o)) :: r.map (z_v (y_ad b)))) := by
              intro ty u hp hn hf e1 e2 e3 e4
              subst e1; subst e2; subst e3; subst e4
              have hset : (y_ws b cA h).set o (b + o, .inr (ci, (fs.map (z_v (y_ad b))).set b1 (z_v (y_ad b) u))) = y_ws b cA (h.set o (.inl (ci, fs.set b1 u))) := by
                rw [← y_ws_set ho]
                congr 2
                show _ = Sum.inr (ci, (fs.set b1 u).map (z_v (y_ad b)))
                rw [List.map_set]
              have go : ∀ (H1 : Heap) (locs1 : List Loc), H1.size = H.size → va_P D cl ((y_ws b cA h).set o (b + o, .inr (ci, (fs.map (z_v (y_ad b))).set b1 (z_v (y_ad b) u)))) H1 → va_S (fun q => b ≤ q) H0 H1 locs1 → W p l e R s m args below meth c H1 locs1 cells slots Q (F0 m (pc + 3) ls (st'.map (z_v (y_ad b)))) := by
                intro H1 locs1 hz k1 k3
                refine W.cs (by rw [List.length_set]; omega) (by rw [y_sum_set ho (by show (fs.set b1 u).length = fs.length; rw [List.length_set])]; omega) (kk ls H1 locs1 hl (by rw [hz, hsz, List.length_set]) (by rw [← hset]; exact k1) k3)
              by_cases hfin : (T b1).2.2.2 = true
              · exact y_putF hx hb hts g1 ty0 g3 g4 hown hK hP hD hS o he hc b1 hb1 (hts _ (hWs _ (List.mem_of_getElem? hb4) rfl)) (fun x h9 => by rw [hb2] at h9; exact h9) hfin hnm (by rw [hb2, hCo]) hp hn hf (by simpa using hbl) hd go
              · exact y_put hx hb hts g1 ty0 g3 g4 hown hK hP hD hS o he hc b1 hb1 (hts _ (hWs _ (List.mem_of_getElem? hb4) rfl)) (fun x h9 => by rw [hb2] at h9; exact h9) (by simpa using hfin) hp hn hf (by simpa using hbl) hd go
            split at hstep
            · rename_i x
              cases hstep
              split at hty <;> first | (rename_i hp; exact fin .int (.inl x) hp rfl rfl rfl rfl rfl rfl) | (simp at hty)
            · rename_i x
              split at hstep
              · rename_i hx01
                cases hstep
                split at hty <;> first | (rename_i hp; exact fin .boolean (.inl x) hp (by rcases hx01 with rfl | rfl <;> rfl) (by rcases hx01 with rfl | rfl <;> rfl) rfl rfl rfl rfl) | (simp at hty)
              · cases hstep
            · rename_i x
              cases hstep
              split at hty <;> first | (rename_i nm hp; exact fin (.object nm) (.inr (.inr (some x))) hp rfl rfl rfl rfl rfl rfl) | (rename_i nm hp; exact fin (.array nm) (.inr (.inr (some x))) hp rfl rfl rfl rfl rfl rfl) | (simp at hty)
            · cases hstep
          · cases hstep
        · cases hstep
      · cases hstep
    · cases h2
  case aastore =>
    simp only [y_step] at hstep
    simp only [Bool.and_eq_true, decide_eq_true_eq] at hchk
    obtain ⟨rfl, hjn⟩ := hchk
    split at hstep
    · rename_i g' v i g o r
      split at hstep
      · rename_i lst ci fs ho hv
        split at hstep
        · rename_i hh
          cases hstep
          obtain ⟨hca, hin⟩ := hh
          subst hca
          have he := y_ws_at (b := b) (cA := cA) ho
          have hev := y_ws_at (b := b) (cA := cA) hv
          cases hc : cl[ci]? with
          | none => rw [hc] at hjn; cases hjn
          | some r9 =>
            rw [hc] at hjn
            have hjn2 : r9.1 = jn := by simpa using hjn
            have hlt : i.toNatClampNeg < lst.length := Nat.not_le.mp fun q => (z_in_vp hin) (Or.inr q)
            refine y_astq hx hb hK hP hD hS o 2 v ci he (by rw [hjn2]; exact hty3) hev hc (z_in_vp hin) hd (fun H1 locs1 hz k1 k3 => ?_)
            refine W.cs (by rw [List.length_set]; omega) (by rw [y_sum_set ho (by show (lst.set _ _).length = lst.length; rw [List.length_set])]; omega) (kk ls H1 locs1 hl (by rw [hz, hsz, List.length_set]) ?_ k3)
            have hset : (y_ws b cA h).set o (b + o, .inl (cA 2, lst.length, .inr (.inr (.inr (.inr (va_up (fun j => (lst.getD j none).map (fun o => b + o)) i.toNatClampNeg (some (b + v)))))))) = y_ws b cA (h.set o (.inr (.inr (.inr (lst.set i.toNatClampNeg (some v)))))) := by
              rw [← y_ws_set ho]
              congr 2
              show _ = Sum.inl (cA 2, (lst.set i.toNatClampNeg (some v)).length, Sum.inr (Sum.inr (Sum.inr (Sum.inr (fun j => ((lst.set i.toNatClampNeg (some v)).getD j none).map (fun o => b + o))))))
              rw [List.length_set]
              congr 7
              funext j
              unfold va_up
              by_cases hj : j = i.toNatClampNeg
              · subst hj
                simp [List.getD, hlt]
              · rw [if_neg hj]
                simp [List.getD, List.getElem?_set_ne (Ne.symm hj)]
            rw [← hset]
            exact k1
        · cases hstep
      · cases hstep
    · cases hstep
  case invokespecial i =>
    simp only [y_step] at hstep
    rw [Bool.and_eq_true, decide_eq_true_eq] at hchk
    obtain ⟨rfl, h2⟩ := hchk
    split at hstep
    · split at hstep
      · split at hstep <;> cases hstep
      · cases hstep
    · rename_i ht
      split at hstep
      · rename_i x r
        split at hstep
        · rename_i hcat
          cases hstep
          split at h2
          · exact absurd rfl ht
          · simp only [Bool.and_eq_true, decide_eq_true_eq] at h2
            obtain ⟨⟨h3, h4⟩, h5⟩ := h2
            refine W.objInit hx hb hown (hts _ (hWs _ (List.mem_of_getElem? h3) rfl)) (hts _ hOB.1) (hts _ hOB.2) rfl (by rw [hml]; exact hl.1) rfl hd h4 ?_ ?_
            · show 2 * 0 + _ + 12 ≤ R.locals
              rw [z_cat_map]
              omega
            · exact W.eq rfl (kk0 rfl ls hl)
        · cases hstep
      · cases hstep
  case return_ =>
    simp only [y_step] at hstep
    split at hstep <;> cases hstep
  all_goals (simp only [y_step] at hstep; cases hstep)
end YS
