/-! the law's loop -/
abbrev crun (k : Nat) (as : List z_V) (w : z_W) (n : Nat) (w' : z_W) (r : Int32) : Prop := z_run sC zM zC n k (0, z_entry (zM k).2.2.1 (zR 0 0 :: as), [], w) = some (w', some (zI r))
abbrev mrun (k : Nat) (as : List z_V) (w : z_W) (n : Nat) (w' : z_W) (r : Int32) : Prop := z_run sR zM zC n k (0, z_entry (zM k).2.2.1 (zR 0 0 :: as), [], w) = some (w', some (zI r))
/-- a call that cannot throw: both sides answer alike -/
def pS (kc km : Nat) (as : List z_V) (Rel : z_W → z_W → Prop) (w v : z_W) : Prop := ∃ (n n' : Nat) (w' v' : z_W) (r : Int32), crun kc as w n w' r ∧ mrun km as v n' v' r ∧ Rel w' v'
def pT (kc km : Nat) (as : List z_V) (Rel : z_W → z_W → Prop) (w v : z_W) : Prop := ∃ (n' : Nat) (w' v' : z_W) (r : Int32), mrun km as v n' v' r ∧ ((∃ (n : Nat) (w1 : z_W), w1 = w' ∧ crun kc as w n w1 r ∧ v'.1 0 0 0 = 0) ∨ (w' = w ∧ w.1 11 0 2 = 0 ∧ v'.1 0 0 0 = 1)) ∧ Rel w' v'
def pU (kc km pc : Nat) (as : List z_V) (Rel : z_W → z_W → Prop) (w v : z_W) : Prop := ∃ (n' : Nat) (w' v' : z_W) (r : Int32), mrun km as v n' v' r ∧ ((∃ (n : Nat) (w1 : z_W), w1 = w' ∧ crun kc as w n w1 r ∧ v'.1 0 0 0 = 0) ∨ (w' = w ∧ w.1 11 0 2 = 0 ∧ v'.1 0 0 0 = 1) ∨ (w' = w ∧ v'.1 0 0 0 = 2 ∧ ∃ L9, z_K sC zM zCr kc (0, z_entry (zM kc).2.2.1 (zR 0 0 :: as), [], w) (pc, L9, [], w))) ∧ Rel w' v'
/-- what the pure part owes for one call out of w, v -/
def pOK (Rel : z_W → z_W → Prop) (w v : z_W) : Prop :=
  (∀ (y : Int64) (i : Int32), pS kP_put kX_put [zL y, zI i] Rel w v) ∧ pT kP_request kX_request [] Rel w v ∧ (∀ i : Int32, pS kP_reply kX_reply [zI i] Rel w v) ∧ pT kP_tick kX_tick [] Rel w v ∧ (∀ i : Int32, pS kP_sheet kX_sheet [zI i] Rel w v) ∧
  (∀ i : Int32, pT kP_stop kX_stop [zI i] Rel w v) ∧ pS kP_restart kX_restart [] Rel w v ∧ (∀ i j : Int32, pU kP_job kX_job 27 [zI i, zI j] Rel w v) ∧ (∀ i j k : Int32, pU kP_pixel kX_pixel 38 [zI i, zI j, zI k] Rel w v) ∧ (∀ i : Int32, pS kP_count kX_count [zI i] Rel w v)
theorem i_ofNat {n : Nat} (h : n < 2147483648) : (Int32.ofNat n).toInt = (n : Int) := Int32.toInt_ofNat_of_lt h
theorem i_add {n k : Nat} (h : n + k < 2147483648) : Int32.ofNat n + Int32.ofNat k = Int32.ofNat (n + k) := (Int32.ofNat_add n k).symm
theorem i_cmp {n j : Nat} (hn : n ≤ 2048) (hj : j ≤ n) : (Int32.ofNat n - 4 < Int32.ofNat j) ↔ n < j + 4 := by
  rw [Int32.lt_iff_toInt_lt, Int32.toInt_sub, i_ofNat (by omega), i_ofNat (by omega)]
  have h4 : (4 : Int32).toInt = 4 := by decide
  rw [h4, Int.bmod_eq_of_le (by omega) (by omega)]
  omega
theorem i_in {n j k : Nat} (hn : n ≤ 2048) (hj : j + k < n) : vp_in (Int32.ofNat j + Int32.ofNat k) n := by
  rw [i_add (by omega), vp_in_iff, i_ofNat (by omega)]
  omega
section LLP
variable {p : Program} {l : Launch} {e : Env} {s : State} {m : MethodId} {below : List Frame} {meth : Method} {c : Code}
variable {b L n0 b1 b2 o : Nat} {xs : Nat → Int32} {D : va_G} {cA : Nat → ClassId} {tys : List (ClassId × FieldType)}
theorem L_forget {H : Heap} {locs : List Loc} {cells slots : Nat} {Q : State → Prop} {g : JFrame} {R : Room} {args : Array Value} (h : ∀ x ∈ locs, s.heap.size ≤ x.base) (k : W p l e R s m args below meth c H [] cells slots Q g) : W p l e R s m args below meth c H locs cells slots Q g :=
  fun T hT X => k T hT (Stand.forget (locs := []) (extra := locs) X h)
set_option maxRecDepth 100000 in
theorem L_loop (hl0 : l.stackTraces = false) (X0 : L_X p s m meth c b L xs D cA tys n0) (hG : L_G s b1 b2 o) (hL : L ≤ 2048) (Rel : Nat → z_W → z_W → Prop) (hR : ∀ j w v, 4 * j + 4 ≤ L → Rel j w v → pOK (Rel (j + 1)) w v) (hidle : ∀ j w v, 4 * j + 4 ≤ L → Rel j w v → Rel (j + 1) w v) :
    ∀ (k j : Nat), L < 4 * j + 4 * k + 4 → 4 * j ≤ L → ∀ (ls : Array Slot) (H : Heap) (locs : List Loc) (w v : z_W) (x : Int64), lv_has ls 7 [(0, .ref b), (1, .ref (adC b1 (0, 0))), (2, .ref (adR b2 (0, 0))), (3, .ref o), (4, .int (Int32.ofNat (4 * j)))] → L_I b1 b2 o cA D w v x H → z_vw sC w → z_vw sR v → va_S (L_A s) s.heap H locs → Rel j w v →
      W p l e room_1 s m #[Value.ref b] below meth c H locs (100 + j) (20000 + 6 * j) (lw_Z below #[Value.ref b] s) (F0 m 23 ls []) := by
  have hx := X0.1.1
  have hb := X0.1.2.1
  have hr := X0.1.2.2.1
  have hX := X0.1.2.2.2.2.2.2.1
  have hbl := X0.1.2.2.2.2.2.2.2.1
  have hlk := X0.1.2.2.2.2.2.2.2.2.1
  have hbA : ¬ L_A s b := Nat.not_le.mpr hbl
  intro k
  induction k with
  | zero =>
    intro j hk hj ls H locs w v x hl hI hv1 hv2 hS hr0
    refine lv_iload hx hb (show decode code 23 = .ok (.iload 4, 2) by decide +kernel) (lv_at hl 4 rfl) ?_
    refine lv_aload_n hx hb (show decode code 25 = .ok (.aload_n 0, 1) by decide +kernel) rfl (lv_at hl 0 rfl) ?_
    refine va_slen hx hb hX hbl hbA hS (show decode code 26 = .ok (.arraylength, 1) by decide +kernel) ?_
    refine lv_iconst (v := 4) hx hb (show decode code 27 = .ok (.iconst 4, 1) by decide +kernel) (by decide) ?_
    refine lv_isub hx hb (show decode code 28 = .ok (.isub, 1) by decide +kernel) ?_
    refine lv_icmp_gt (tgt := 554) hx hb (show decode code 29 = .ok (.if_icmp .gt 525, 3) by decide +kernel) rfl (fun _ => ?_) (fun h => absurd ((i_cmp hL hj).mpr (by omega)) h)
    refine lv_iconst (v := 1) hx hb (show decode code 554 = .ok (.iconst 1, 1) by decide +kernel) (by decide) ?_
    refine L_forget hS.2.2 ?_
    refine W.widen (k := 600002) (n := 7302232) (by omega) (by omega) ?_
    exact lw_ret hx hb hr hlk (show decode code 555 = .ok (.ireturn, 1) by decide +kernel)
  | succ k ih =>
    intro j hk hj ls H locs w v x hl hI hv1 hv2 hS hr0
    refine lv_iload hx hb (show decode code 23 = .ok (.iload 4, 2) by decide +kernel) (lv_at hl 4 rfl) ?_
    refine lv_aload_n hx hb (show decode code 25 = .ok (.aload_n 0, 1) by decide +kernel) rfl (lv_at hl 0 rfl) ?_
    refine va_slen hx hb hX hbl hbA hS (show decode code 26 = .ok (.arraylength, 1) by decide +kernel) ?_
    refine lv_iconst (v := 4) hx hb (show decode code 27 = .ok (.iconst 4, 1) by decide +kernel) (by decide) ?_
    refine lv_isub hx hb (show decode code 28 = .ok (.isub, 1) by decide +kernel) ?_
    refine lv_icmp_gt (tgt := 554) hx hb (show decode code 29 = .ok (.if_icmp .gt 525, 3) by decide +kernel) rfl (fun _ => ?_) (fun h => ?_)
    · refine lv_iconst (v := 1) hx hb (show decode code 554 = .ok (.iconst 1, 1) by decide +kernel) (by decide) ?_
      refine L_forget hS.2.2 ?_
      refine W.widen (k := 600002) (n := 7302232) (by omega) (by omega) ?_
      exact lw_ret hx hb hr hlk (show decode code 555 = .ok (.ireturn, 1) by decide +kernel)
    have hj4 : 4 * j + 4 ≤ L := Nat.not_lt.mp (fun h9 => h ((i_cmp hL hj).mpr h9))
    have hcs : 100 + j ≤ 600002 ∧ 20000 + 6 * j ≤ 7302232 := ⟨by omega, by omega⟩
    have hcs1 : 100 + j + 1 ≤ 600002 ∧ 20000 + 6 * j + 6 ≤ 7302232 := ⟨by omega, by omega⟩
    have hin1 : vp_in (Int32.ofNat (4 * j) + 1) L := i_in (k := 1) hL (by omega)
    have hin2 : vp_in (Int32.ofNat (4 * j) + 2) L := i_in (k := 2) hL (by omega)
    have hin3 : vp_in (Int32.ofNat (4 * j) + 3) L := i_in (k := 3) hL (by omega)
    have hin0 : vp_in (Int32.ofNat (4 * j)) L := by
      have h9 := i_in (j := 4 * j) (k := 0) hL (by omega)
      rw [i_add (by omega)] at h9
      exact h9
    have next : ∀ (w v : z_W) (x : Int64), Rel (j + 1) w v → ∀ (H : Heap) (locs : List Loc) (ls : Array Slot), lv_has ls 7 [(0, .ref b), (1, .ref (adC b1 (0, 0))), (2, .ref (adR b2 (0, 0))), (3, .ref o), (4, .int (Int32.ofNat (4 * j)))] → L_I b1 b2 o cA D w v x H → z_vw sC w → z_vw sR v → va_S (L_A s) s.heap H locs → W p l e room_1 s m #[Value.ref b] below meth c H locs (100 + j + 1) (20000 + 6 * j + 6) (lw_Z below #[Value.ref b] s) (F0 m 548 ls []) := by
      intro w v x hr1 H locs ls hl hI hv1 hv2 hS
      refine lv_iinc (k := 4) (v := Int32.ofNat (4 * (j + 1))) hx hb (show decode code 548 = .ok (.iinc 4 4, 3) by decide +kernel) hl rfl ?_ (by decide) rfl (fun ls1 hl1 => ?_)
      · show Int32.ofNat (4 * j) + Int32.ofNat 4 = _
        rw [i_add (by omega)]
        rfl
      refine lv_goto (tgt := 23) hx hb (show decode code 551 = .ok (.goto (-528), 3) by decide +kernel) rfl ?_
      exact ih (j + 1) (by omega) (by omega) ls1 H locs w v x (lv_sub hl1 [1, 2, 3, 4, 0] rfl) hI hv1 hv2 hS hr1
    have next0 : ∀ (w v : z_W) (x : Int64), Rel (j + 1) w v → ∀ (H : Heap) (locs : List Loc) (ls : Array Slot), lv_has ls 7 [(0, .ref b), (1, .ref (adC b1 (0, 0))), (2, .ref (adR b2 (0, 0))), (3, .ref o), (4, .int (Int32.ofNat (4 * j)))] → L_I b1 b2 o cA D w v x H → z_vw sC w → z_vw sR v → va_S (L_A s) s.heap H locs → W p l e room_1 s m #[Value.ref b] below meth c H locs (100 + j) (20000 + 6 * j) (lw_Z below #[Value.ref b] s) (F0 m 548 ls []) :=
      fun w v x hr1 H locs ls hl hI hv1 hv2 hS => W.widen (by omega) (by omega) (next w v x hr1 H locs ls hl hI hv1 hv2 hS)
    refine lv_aload_n hx hb (show decode code 32 = .ok (.aload_n 0, 1) by decide +kernel) rfl (lv_at hl 0 rfl) ?_
    refine lv_iload hx hb (show decode code 33 = .ok (.iload 4, 2) by decide +kernel) (lv_at hl 4 rfl) ?_
    refine va_sld hx hb hX hbl hbA hS hin0 (show decode code 35 = .ok (.iaload, 1) by decide +kernel) ?_
    refine lv_bipush (v := 15) hx hb (show decode code 36 = .ok (.bipush 15, 2) by decide +kernel) (by decide) ?_
    refine lv_iand hx hb (show decode code 38 = .ok (.iand, 1) by decide +kernel) ?_
    obtain ⟨o0, o1, o2, o3, o4, o5, o6, o7, o8, o9⟩ := hR j w v hj4 hr0
    have dT := (show decode code 39 = .ok (.tableswitch 509 0 9 #[53, 122, 166, 191, 235, 260, 323, 336, 404, 484], 53) by decide +kernel)
    generalize xs (Int32.ofNat (4 * j)).toNatClampNeg &&& 15 = q
    by_cases hq : q.toInt < 0 ∨ 9 < q.toInt
    · exact lv_tableOut (tgt := 548) hx hb dT hq rfl (next0 w v x (hidle j w v hj4 hr0) H locs ls hl hI hv1 hv2 hS)
    have h1 : ¬ q.toInt < 0 := fun h => hq (Or.inl h)
    have h2 : ¬ 9 < q.toInt := fun h => hq (Or.inr h)
    have hcase : q.toInt = 0 ∨ q.toInt = 1 ∨ q.toInt = 2 ∨ q.toInt = 3 ∨ q.toInt = 4 ∨ q.toInt = 5 ∨ q.toInt = 6 ∨ q.toInt = 7 ∨ q.toInt = 8 ∨ q.toInt = 9 := by omega
    rcases hcase with h | h | h | h | h | h | h | h | h | h
    · refine lv_tableIn (off := 53) (tgt := 92) hx hb dT h1 h2 (by rw [h]; rfl) rfl ?_
      obtain ⟨n, n', w', v', r, g1, g2, g3⟩ := o0 _ _
      exact L_op0 X0 hG hin1 hin2 hin3 hl hI hv1 hv2 hS hcs g1 g2 (next0 w' v' x g3)
    · refine lv_tableIn (off := 122) (tgt := 161) hx hb dT h1 h2 (by rw [h]; rfl) rfl ?_
      obtain ⟨n', w', v', r, g1, g2, g3⟩ := o1
      exact L_op1 hl0 X0 hG  hl hI hv1 hv2 hS hcs1 g1 g2 (fun x' => next w' v' x' g3)
    · refine lv_tableIn (off := 166) (tgt := 205) hx hb dT h1 h2 (by rw [h]; rfl) rfl ?_
      obtain ⟨n, n', w', v', r, g1, g2, g3⟩ := o2 _
      exact L_op2 X0 hG hin1 hl hI hv1 hv2 hS hcs g1 g2 (next0 w' v' x g3)
    · refine lv_tableIn (off := 191) (tgt := 230) hx hb dT h1 h2 (by rw [h]; rfl) rfl ?_
      obtain ⟨n', w', v', r, g1, g2, g3⟩ := o3
      exact L_op3 hl0 X0 hG  hl hI hv1 hv2 hS hcs1 g1 g2 (fun x' => next w' v' x' g3)
    · refine lv_tableIn (off := 235) (tgt := 274) hx hb dT h1 h2 (by rw [h]; rfl) rfl ?_
      obtain ⟨n, n', w', v', r, g1, g2, g3⟩ := o4 _
      exact L_op4 X0 hG hin1 hl hI hv1 hv2 hS hcs g1 g2 (next0 w' v' x g3)
    · refine lv_tableIn (off := 260) (tgt := 299) hx hb dT h1 h2 (by rw [h]; rfl) rfl ?_
      obtain ⟨n', w', v', r, g1, g2, g3⟩ := o5 _
      exact L_op5 hl0 X0 hG hin1 hl hI hv1 hv2 hS hcs1 g1 g2 (fun x' => next w' v' x' g3)
    · refine lv_tableIn (off := 323) (tgt := 362) hx hb dT h1 h2 (by rw [h]; rfl) rfl ?_
      obtain ⟨n, n', w', v', r, g1, g2, g3⟩ := o6
      exact L_op6 X0 hG  hl hI hv1 hv2 hS hcs g1 g2 (next0 w' v' x g3)
    · refine lv_tableIn (off := 336) (tgt := 375) hx hb dT h1 h2 (by rw [h]; rfl) rfl ?_
      obtain ⟨n', w', v', r, g1, g2, g3⟩ := o7 _ _
      exact L_op7 hl0 X0 hG hin1 hin2 hl hI hv1 hv2 hS hcs1 g1 g2 (fun x' => next w' v' x' g3)
    · refine lv_tableIn (off := 404) (tgt := 443) hx hb dT h1 h2 (by rw [h]; rfl) rfl ?_
      obtain ⟨n', w', v', r, g1, g2, g3⟩ := o8 _ _ _
      exact L_op8 hl0 X0 hG hin1 hin2 hin3 hl hI hv1 hv2 hS hcs1 g1 g2 (fun x' => next w' v' x' g3)
    · refine lv_tableIn (off := 484) (tgt := 523) hx hb dT h1 h2 (by rw [h]; rfl) rfl ?_
      obtain ⟨n, n', w', v', r, g1, g2, g3⟩ := o9 _
      exact L_op9 X0 hG hin1 hl hI hv1 hv2 hS hcs g1 g2 (next0 w' v' x g3)
end LLP
