/-! the law's frame: calls -/
def R_law : String := "PrintHouseLaw"
def lw_P (b : Addr) (xs : List Int32) (args : Array Value) (s : State) : Prop := args = #[.ref b] ∧ s.IntsAt b xs ∧ xs.length ≤ 4 ∧ (Jvm.Cond.and given_1 narrow_1).before args s = true
def lw_Q (_ : Array Value) (s : State) (o : Outcome) (t : State) : Prop := o = .returned (some (.int 1)) ∧ Framed s o t [] 600002 7302232
def lw_Z (below : List Frame) (a : Array Value) (s : State) : State → Prop := fun t => ∃ o, t.status = .running ∧ Ended t below o ∧ lw_Q a s o t
/-- the law's own end, with 1 on the stack, nothing written that was there before, its room as the claim has it -/
theorem lw_ret {p : Program} {l : Launch} {e : Env} {s : State} {m : MethodId} {below : List Frame} {meth : Method} {c : Code} {b : Nat} (hx : p.tables.exec = Jvm.exec) (hb : c.code = code) (hr : meth.sig.returnType = ret) (hlocks : meth.locks = false) {pc : Nat} {H : Heap} {ls : Array Slot} (hdg : decode code pc = .ok (.ireturn, 1)) : W p l e room_1 s m #[Value.ref b] below meth c H [] 600002 7302232 (lw_Z below #[Value.ref b] s) (F0 m pc ls [.int 1]) := by
  intro T hT X
  obtain ⟨fs, hret, hrun, hended, hW, hframe⟩ := X.leave (v := some (.int 1)) (hlocks := hlocks) (fun h => by rw [hr] at h; cases h)
  have hmeth' : T.vm.method? m = some meth := X.method'
  refine ⟨T.setFrames fs, ?_, .returned (some (.int 1)), hrun, hended, rfl, ⟨_, rfl⟩, hW, hframe⟩
  jvm_step X.here [X.here.top, hx, hb, hdg, hmeth', hr, ret, narrow_b1]
  (try refine ⟨rfl, ?_⟩); (try refine ⟨rfl, ?_⟩)
  first | (intro acts; rw [hret _ acts rfl rfl rfl]) | rw [hret _ _ rfl rfl rfl]
  exact Steps.refl _
def lw_At (p : Program) (s : State) (m : MethodId) (meth : Method) (c : Code) (b L : Nat) (xs : Nat → Int32) : Prop :=
  p.tables.exec = Jvm.exec ∧ c.code = code ∧ meth.sig.returnType = ret ∧ c.maxLocals = 7 ∧ s.vm.findClass R_law = some m.cls ∧ (∀ w ∈ lw_tbl, w.before #[Value.ref b] s = true) ∧ va_X b L xs s s.heap ∧ b < s.heap.size ∧ meth.locks = false ∧ (Jvm.Cond.and given_1 narrow_1).before #[Value.ref b] s = true
def L_A (s : State) : Nat → Prop := fun q => s.heap.size ≤ q
def L_I (b1 b2 o : Nat) (cA : Nat → ClassId) (D : va_G) (w v : z_W) (x : Int64) (H : Heap) : Prop := va_P D zcl (z_ws sC zfk (adC b1) cA w) H ∧ va_P D zcl (z_ws sR zfk (adR b2) cA v) H ∧ H[o]? = some (h_out cA x)
def L_X (p : Program) (s : State) (m : MethodId) (meth : Method) (c : Code) (b L : Nat) (xs : Nat → Int32) (D : va_G) (cA : Nat → ClassId) (tys : List (ClassId × FieldType)) (n0 : Nat) : Prop :=
  lw_At p s m meth c b L xs ∧ (tys[0]? = some (cA 0, .int) ∧ tys[1]? = some (cA 1, .long) ∧ tys[2]? = some (cA 2, .object "PrintHouse$Job")) ∧ va_K D zcl tys s ∧ (∀ x ∈ zNs, va_Nw x s) ∧ t_X n0 s s.heap ∧ n0 ≤ s.heap.size
def L_G (s : State) (b1 b2 o : Nat) : Prop := s.heap.size ≤ b1 ∧ b1 + 60 ≤ b2 ∧ b2 + 8 ≤ o
def r_A (b : Nat) : Nat → Prop := fun q => b ≤ q ∧ q < b + 8
section LCA
variable {p : Program} {l : Launch} {e : Env} {s : State} {m : MethodId} {below : List Frame} {meth : Method} {c : Code} {H : Heap} {locs : List Loc} {cells slots : Nat} {Q : State → Prop}
variable {b L n0 b1 b2 o : Nat} {xs : Nat → Int32} {D : va_G} {cA : Nat → ClassId} {tys : List (ClassId × FieldType)}
theorem L_X.ts (h : L_X p s m meth c b L xs D cA tys n0) : ∀ w ∈ zTs, w.before #[Value.ref b] s = true := fun w hw => h.1.2.2.2.2.2.1 w (List.mem_filter.mp hw).1
theorem L_S {A : Nat → Prop} {H1 : Heap} {locs1 : List Loc} {st₀ t : State} (hA : ∀ q, A q → L_A s q) (hS : va_S (L_A s) s.heap H locs) (h0 : st₀.heap = H) (hF : va_F A st₀ t) (ht : t.heap = H1) (hl1 : ∀ x ∈ locs1, x ∈ locs ∨ A x.base) : va_S (L_A s) s.heap H1 locs1 := by
  refine ⟨Nat.le_trans hS.1 (by rw [← h0, ← ht]; exact hF.1), fun q g1 g2 => ?_, fun x hx => ?_⟩
  · rw [← ht, hF.2 q (by rw [h0]; exact Nat.lt_of_lt_of_le g1 hS.1) (fun h => g2 (hA q h)), h0]
    exact hS.2.1 q g1 g2
  · rcases hl1 x hx with h | h
    · exact hS.2.2 x h
    · exact hA _ h
theorem L_keep {ws : va_W} {A : Nat → Prop} {H1 : Heap} {st₀ t : State} (hP : va_P D zcl ws H) (h0 : st₀.heap = H) (hF : va_F A st₀ t) (ht : t.heap = H1) (hn : ∀ (k : Nat) (q : Nat × va_E), ws[k]? = some q → ¬ A q.1) : va_P D zcl ws H1 := by
  refine hP.kept (fun k q hq => ?_)
  rw [← ht, hF.2 q.1 (by rw [h0]; exact (hP k q hq).lt) (hn k q hq), h0]
theorem L_keepO {A : Nat → Prop} {H1 : Heap} {st₀ t : State} {o : Nat} {ce : Cell} (hO : H[o]? = some ce) (h0 : st₀.heap = H) (hF : va_F A st₀ t) (ht : t.heap = H1) (hn : ¬ A o) : H1[o]? = some ce := by
  rw [← ht, hF.2 o (by rw [h0]; exact (Array.getElem?_eq_some_iff.mp hO).1) hn, h0]
  exact hO
theorem L_callC (X0 : L_X p s m meth c b L xs D cA tys n0) (hG : L_G s b1 b2 o) {k n : Nat} (hk : k < znM) {as' : List z_V} {w w' v : z_W} {x : Int64} {r : Option z_V}
    (hrun : z_run sC zM zC n k (0, z_entry (zM k).2.2.1 (zR 0 0 :: as'), [], w) = some (w', r)) (hal : (z_args (zR 0 0 :: as')).length ≤ (zM k).2.2.1) (hva : z_vs sC (zR 0 0 :: as')) (hvw : z_vw sC w) (hsort : 4 = (zM k).2.2.2.2.2.1) (hlen : as'.length + 1 = (zM k).2.2.2.2.1)
    (hRf : (zM k).2.2.2.2.2.2.1 + 1 ≤ 11) (hRl : 8 + ((zM k).2.2.1 + 11) + (zM k).2.2.2.2.2.2.2 ≤ 388) (hI : L_I b1 b2 o cA D w v x H) (hS : va_S (L_A s) s.heap H locs) {index pc : Nat} (hlk : Jvm.Cond.methodLink "PrintHouseLaw" index (zM k).1 ∈ zTs)
    {ls : Array Slot} (hls : ls.size = 7) {rest : List Value} (hcat : (rest.map fun v => v.category).sum ≤ 8) (hd : decode code pc = .ok (.invokevirtual index, 3)) (hcs : cells ≤ 600002 ∧ slots ≤ 7302232)
    (kk : ∀ (H1 : Heap) (locs1 : List Loc), L_I b1 b2 o cA D w' v x H1 → z_vw sC w' → va_S (L_A s) s.heap H1 locs1 → W p l e room_1 s m #[Value.ref b] below meth c H1 locs1 cells slots Q (F0 m (pc + 3) ls ((r.map (z_v (adC b1))).toList ++ rest))) :
    W p l e room_1 s m #[Value.ref b] below meth c H locs cells slots Q (F0 m pc ls ((as'.map (z_v (adC b1))).reverse ++ Value.ref (adC b1 (0, 0)) :: rest)) := by
  have hts := X0.ts
  obtain ⟨C0, ⟨h1, h2, h3⟩, hK, hN, hX, hn0⟩ := X0
  have ok := z_okC (ad := adC b1) (A := c_A b1) h1 h2 h3 (h_D cA)
  refine r_W (g_call (R := room_1) (own := "PrintHouseLaw") (D := D) (nL := 7) ok hk hrun hal hva hvw hsort (by rw [← hsort]; decide) hlen C0.1 C0.2.1 C0.2.2.2.1 C0.2.2.2.2.1 hts hN hK hRf hRl hI.1 hlk hls hcat hd hcs) (fun v9 st₀ t H1 locs1 h0 hq ht hlo => ?_)
  obtain ⟨q1, q2, q3⟩ := hq
  cases q1
  obtain ⟨k1, k2, k3⟩ := hG
  refine kk H1 locs1 ⟨by rw [← ht]; exact q2, L_keep hI.2.1 h0 q3 ht (fun k q hq h => ?_), L_keepO hI.2.2 h0 q3 ht (fun h => ?_)⟩ (z_keep sCr_in n k _ w' _ hrun (fun _ hx => by cases hx) (z_vL.entry hva) hvw).1 (L_S (fun q h => Nat.le_trans k1 h.1) hS h0 q3 ht hlo)
  · have := r_at hq
    have := h.2
    omega
  · have := h.2
    omega
theorem L_callR (X0 : L_X p s m meth c b L xs D cA tys n0) (hG : L_G s b1 b2 o) {k n : Nat} (hk : k < znM) {as' : List z_V} {w v v' : z_W} {x : Int64} {r : Option z_V}
    (hrun : z_run sR zM zC n k (0, z_entry (zM k).2.2.1 (zR 0 0 :: as'), [], v) = some (v', r)) (hal : (z_args (zR 0 0 :: as')).length ≤ (zM k).2.2.1) (hva : z_vs sR (zR 0 0 :: as')) (hvw : z_vw sR v) (hsort : 12 = (zM k).2.2.2.2.2.1) (hlen : as'.length + 1 = (zM k).2.2.2.2.1)
    (hRf : (zM k).2.2.2.2.2.2.1 + 1 ≤ 11) (hRl : 8 + ((zM k).2.2.1 + 11) + (zM k).2.2.2.2.2.2.2 ≤ 388) (hI : L_I b1 b2 o cA D w v x H) (hS : va_S (L_A s) s.heap H locs) {index pc : Nat} (hlk : Jvm.Cond.methodLink "PrintHouseLaw" index (zM k).1 ∈ zTs)
    {ls : Array Slot} (hls : ls.size = 7) {rest : List Value} (hcat : (rest.map fun v => v.category).sum ≤ 8) (hd : decode code pc = .ok (.invokevirtual index, 3)) (hcs : cells ≤ 600002 ∧ slots ≤ 7302232)
    (kk : ∀ (H1 : Heap) (locs1 : List Loc), L_I b1 b2 o cA D w v' x H1 → z_vw sR v' → va_S (L_A s) s.heap H1 locs1 → W p l e room_1 s m #[Value.ref b] below meth c H1 locs1 cells slots Q (F0 m (pc + 3) ls ((r.map (z_v (adR b2))).toList ++ rest))) :
    W p l e room_1 s m #[Value.ref b] below meth c H locs cells slots Q (F0 m pc ls ((as'.map (z_v (adR b2))).reverse ++ Value.ref (adR b2 (0, 0)) :: rest)) := by
  have hts := X0.ts
  obtain ⟨C0, ⟨h1, h2, h3⟩, hK, hN, hX, hn0⟩ := X0
  have ok := z_okR (ad := adR b2) (A := r_A b2) h1 h2 h3 (r_D (fun q h1 h2 => ⟨h1, h2⟩))
  refine r_W (g_call (R := room_1) (own := "PrintHouseLaw") (D := D) (nL := 7) ok hk hrun hal hva hvw hsort (by rw [← hsort]; decide) hlen C0.1 C0.2.1 C0.2.2.2.1 C0.2.2.2.2.1 hts hN hK hRf hRl hI.2.1 hlk hls hcat hd hcs) (fun v9 st₀ t H1 locs1 h0 hq ht hlo => ?_)
  obtain ⟨q1, q2, q3⟩ := hq
  cases q1
  obtain ⟨k1, k2, k3⟩ := hG
  refine kk H1 locs1 ⟨L_keep hI.1 h0 q3 ht (fun k q hq h => ?_), by rw [← ht]; exact q2, L_keepO hI.2.2 h0 q3 ht (fun h => ?_)⟩ (z_keep sRr_in n k _ v' _ hrun (fun _ hx => by cases hx) (z_vL.entry hva) hvw).1 (L_S (fun q h => by have := h.1; show s.heap.size ≤ q; omega) hS h0 q3 ht hlo)
  · have := c_at hq
    have := h.1
    omega
  · have := h.2
    omega
/-- the words of a helper's call -/
def L_H (y : MethodName) (bytes : ByteArray) (maxL index n : Nat) (hh : List (Nat × Nat × Nat × Nat)) : Prop :=
  Jvm.Cond.codeWith y bytes maxL (some .int) hh ∈ zTs ∧ Jvm.Cond.initialized y.cls ∈ zTs ∧ Jvm.Cond.static y ∈ zTs ∧ Jvm.Cond.methodLink "PrintHouseLaw" index y ∈ zTs ∧ (y.cls ≠ "java/lang/invoke/MethodHandle" ∧ y.cls ≠ "java/lang/invoke/VarHandle") ∧ maxL ≤ 6 ∧ ∀ sig, parseMethodDescriptor y.desc = some sig → n = sig.parameters.length
theorem L_help (X0 : L_X p s m meth c b L xs D cA tys n0) (hG : L_G s b1 b2 o) {y : MethodName} {bytes : ByteArray} {maxL index n : Nat} {hh : List (Nat × Nat × Nat × Nat)} (hH : L_H y bytes maxL index n hh) {w w' v : z_W} {x x' : Int64} {As : List Value}
    (hM : Met l y (Jvm.Cond.codeWith y bytes maxL (some .int) hh :: zTs) { frames := 8, cells := 0, slots := 0, locals := 240 } (h_Pc As b1 n0 o cA D tys w x) (h_Qn b1 o cA D w' x') 0 0 (h_A b1 o)) (hAs : As.length = n)
    (hI : L_I b1 b2 o cA D w v x H) (hS : va_S (L_A s) s.heap H locs) {pc : Nat} {ls : Array Slot} (hls : ls.size = 7) (hd : decode code pc = .ok (.invokestatic index, 3)) (hcs : cells ≤ 600002 ∧ slots ≤ 7302232)
    (kk : ∀ (H1 : Heap) (locs1 : List Loc), L_I b1 b2 o cA D w' v x' H1 → va_S (L_A s) s.heap H1 locs1 → W p l e room_1 s m #[Value.ref b] below meth c H1 locs1 cells slots Q (F0 m (pc + 3) ls [.int 0])) :
    W p l e room_1 s m #[Value.ref b] below meth c H locs cells slots Q (F0 m pc ls (As.reverse ++ [])) := by
  have hts := X0.ts
  obtain ⟨C0, ⟨h1, h2, h3⟩, hK, hN, hX, hn0⟩ := X0
  obtain ⟨y1, y2, y3, y4, y5, y6, y7⟩ := hH
  refine r_W (s_run (n := 0) (R := room_1) (own := "PrintHouseLaw") (nL := 7) (rest := []) C0.1 C0.2.1 C0.2.2.2.1 C0.2.2.2.2.1 hM h_Pc.blind rfl rfl (show 8 + 1 ≤ 11 by omega) (show 8 + (maxL + 11) + 240 ≤ 388 by omega) (fun x hx a' U hW => by
      have hxT : x ∈ zTs := by
        rcases List.mem_cons.mp hx with rfl | h
        · exact y1
        · exact h
      exact word_at hW (good_of_word (zTs_good x hxT)) (hts x hxT)) List.mem_cons_self (hts _ y2) (hts _ y3) (hts _ y4) y5 (fun sig hs => hAs.trans (y7 sig hs)) rfl hls rfl (lv_room (st := []) (by decide)) hd hcs
      (fun U hU hW => ⟨rfl, by rw [hU]; exact hI.1, va_K.moved hW.alike hK, fun x hx1 => zNs_mv x hx1 s U hW (hN x hx1), hX.moved hW (fun a ha => by rw [hU]; exact hS.2.1 a (Nat.lt_of_lt_of_le ha hn0) (fun h => Nat.not_lt.mpr h (Nat.lt_of_lt_of_le ha hn0))), by rw [hU]; exact hI.2.2⟩)) (fun v9 st₀ t H1 locs1 h0 hq ht hlo => ?_)
  obtain ⟨q1, q2, q3, q4⟩ := hq
  cases q1
  obtain ⟨k1, k2, k3⟩ := hG
  refine kk H1 locs1 ⟨by rw [← ht]; exact q2, L_keep hI.2.1 h0 q4 ht (fun k q hq h => ?_), by rw [← ht]; exact q3⟩ (L_S (fun q h => ?_) hS h0 q4 ht hlo)
  · have := r_at hq
    rcases h with h | h <;> omega
  · show s.heap.size ≤ q
    rcases h with h | h <;> omega
theorem L_helpT (X0 : L_X p s m meth c b L xs D cA tys n0) {y : MethodName} {bytes : ByteArray} {maxL index n : Nat} {hh : List (Nat × Nat × Nat × Nat)} (hH : L_H y bytes maxL index n hh) {w v : z_W} {x : Int64} {As : List Value} {k : Int32}
    (hM : Met l y (Jvm.Cond.codeWith y bytes maxL (some .int) hh :: zTs) { frames := 8, cells := 1, slots := 6, locals := 240 } (h_Pc As b1 n0 o cA D tys w x) (h_Qt k) 1 6 (fun _ => False)) (hAs : As.length = n)
    (hI : L_I b1 b2 o cA D w v x H) (hS : va_S (L_A s) s.heap H locs) {pc : Nat} {ls : Array Slot} (hls : ls.size = 7) (hd : decode code pc = .ok (.invokestatic index, 3)) (hcs : cells + 1 ≤ 600002 ∧ slots + 6 ≤ 7302232)
    (kk : ∀ (H1 : Heap) (locs1 : List Loc), L_I b1 b2 o cA D w v x H1 → va_S (L_A s) s.heap H1 locs1 → W p l e room_1 s m #[Value.ref b] below meth c H1 locs1 (cells + 1) (slots + 6) Q (F0 m (pc + 3) ls [.int k])) :
    W p l e room_1 s m #[Value.ref b] below meth c H locs cells slots Q (F0 m pc ls (As.reverse ++ [])) := by
  have hts := X0.ts
  obtain ⟨C0, ⟨h1, h2, h3⟩, hK, hN, hX, hn0⟩ := X0
  obtain ⟨y1, y2, y3, y4, y5, y6, y7⟩ := hH
  refine r_W (s_run (n := 0) (R := room_1) (own := "PrintHouseLaw") (nL := 7) (rest := []) C0.1 C0.2.1 C0.2.2.2.1 C0.2.2.2.2.1 hM h_Pc.blind rfl rfl (show 8 + 1 ≤ 11 by omega) (show 8 + (maxL + 11) + 240 ≤ 388 by omega) (fun x hx a' U hW => by
      have hxT : x ∈ zTs := by
        rcases List.mem_cons.mp hx with rfl | h
        · exact y1
        · exact h
      exact word_at hW (good_of_word (zTs_good x hxT)) (hts x hxT)) List.mem_cons_self (hts _ y2) (hts _ y3) (hts _ y4) y5 (fun sig hs => hAs.trans (y7 sig hs)) rfl hls rfl (lv_room (st := []) (by decide)) hd hcs
      (fun U hU hW => ⟨rfl, by rw [hU]; exact hI.1, va_K.moved hW.alike hK, fun x hx1 => zNs_mv x hx1 s U hW (hN x hx1), hX.moved hW (fun a ha => by rw [hU]; exact hS.2.1 a (Nat.lt_of_lt_of_le ha hn0) (fun h => Nat.not_lt.mpr h (Nat.lt_of_lt_of_le ha hn0))), by rw [hU]; exact hI.2.2⟩)) (fun v9 st₀ t H1 locs1 h0 hq ht hlo => ?_)
  obtain ⟨q1, q4⟩ := hq
  cases q1
  exact kk H1 locs1 ⟨L_keep hI.1 h0 q4 ht (fun _ _ _ h => h), L_keep hI.2.1 h0 q4 ht (fun _ _ _ h => h), L_keepO hI.2.2 h0 q4 ht (fun h => h)⟩ (L_S (fun q h => absurd h id) hS h0 q4 ht hlo)
end LCA
