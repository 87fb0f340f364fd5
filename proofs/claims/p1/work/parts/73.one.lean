/-! one call on fresh objects -/
def zchk (x : Option (z_W × Option z_V)) (r t : Int32) : Bool := match x with
  | some (w', some (.inl r')) => decide (r' = r) && decide (w'.1 0 0 0 = t)
  | _ => false
theorem conc {S : z_S} {k n : Nat} {as : List z_V} {w : z_W} {r t : Int32} (h : zchk (z_run S zM zC n k (0, z_entry (zM k).2.2.1 (zR 0 0 :: as), [], w)) r t = true) : ∃ w', z_run S zM zC n k (0, z_entry (zM k).2.2.1 (zR 0 0 :: as), [], w) = some (w', some (zI r)) ∧ w'.1 0 0 0 = t := by
  unfold zchk at h
  split at h
  · rename_i w' r' hz
    rw [Bool.and_eq_true, decide_eq_true_eq, decide_eq_true_eq] at h
    exact ⟨w', by rw [hz, h.1], h.2⟩
  · cases h
set_option maxRecDepth 100000 in
theorem o_request : pT kP_request kX_request [] (fun _ _ => True) w0 v0 := by
  obtain ⟨w', h1, -⟩ := conc (S := sC) (k := kP_request) (n := 400) (as := []) (w := w0) (r := 1024) (t := 0) (by decide +kernel)
  obtain ⟨v', h2, h3⟩ := conc (S := sR) (k := kX_request) (n := 400) (as := []) (w := v0) (r := 1024) (t := 0) (by decide +kernel)
  exact ⟨400, w', v', 1024, h2, Or.inl ⟨400, w', rfl, h1, h3⟩, trivial⟩
set_option maxRecDepth 100000 in
theorem o_tick : pT kP_tick kX_tick [] (fun _ _ => True) w0 v0 := by
  obtain ⟨w', h1, -⟩ := conc (S := sC) (k := kP_tick) (n := 200) (as := []) (w := w0) (r := 0) (t := 0) (by decide +kernel)
  obtain ⟨v', h2, h3⟩ := conc (S := sR) (k := kX_tick) (n := 200) (as := []) (w := v0) (r := 0) (t := 0) (by decide +kernel)
  exact ⟨200, w', v', 0, h2, Or.inl ⟨200, w', rfl, h1, h3⟩, trivial⟩
set_option maxRecDepth 100000 in
theorem o_restart : pS kP_restart kX_restart [] (fun _ _ => True) w0 v0 := by
  obtain ⟨w', h1, -⟩ := conc (S := sC) (k := kP_restart) (n := 200) (as := []) (w := w0) (r := 0) (t := 0) (by decide +kernel)
  obtain ⟨v', h2, h3⟩ := conc (S := sR) (k := kX_restart) (n := 200) (as := []) (w := v0) (r := 0) (t := 0) (by decide +kernel)
  exact ⟨200, 200, w', v', 0, h1, h2, trivial⟩
theorem o_put (y : Int64) (i : Int32) : pS kP_put kX_put [zL y, zI i] (fun _ _ => True) w0 v0 := by
  refine pS.of (P := fun _ r => (putOK 0 i → r = 1) ∧ (¬ putOK 0 i → r = 0)) (P' := fun _ r => (putOK 0 i → r = 1) ∧ (¬ putOK 0 i → r = 0)) ?_ ?_ (fun w' r v' r' h1 h2 => ⟨?_, trivial⟩)
  · exact e_put (n := 0) rfl (by omega) (fun h => ⟨0, rfl, fun h9 => absurd h9 h, fun _ => rfl⟩) (fun k _ _ _ h => ⟨1, rfl, fun _ => rfl, fun h9 => absurd h h9⟩)
  · exact m_put (n := 0) rfl (by omega) (fun h => ⟨0, rfl, fun h9 => absurd h9 h, fun _ => rfl⟩) (fun k _ _ _ h => ⟨1, rfl, fun _ => rfl, fun h9 => absurd h h9⟩)
  · by_cases h : putOK 0 i
    · rw [h1.1 h, h2.1 h]
    · rw [h1.2 h, h2.2 h]
theorem o_reply (i : Int32) : pS kP_reply kX_reply [zI i] (fun _ _ => True) w0 v0 := by
  refine pS.of (P := fun _ r => r = -1) (P' := fun _ r => r = -1) (e_reply (by decide) ⟨_, rfl, ?_⟩) (m_reply (by decide) ⟨_, rfl, ?_⟩) (fun w' r v' r' h1 h2 => ⟨by rw [h1, h2], trivial⟩)
  · exact if_neg (fun h => absurd h.2 (Int32.not_lt.mpr h.1))
  · exact if_neg (fun h => absurd (Int32.lt_of_le_of_lt h.1 h.2) (by decide))
theorem o_sheet (i : Int32) : pS kP_sheet kX_sheet [zI i] (fun _ _ => True) w0 v0 := by
  refine pS.of (P := fun _ r => r = -1) (P' := fun _ r => r = -1) (e_sheet (by decide) ⟨_, rfl, ?_⟩) (m_sheet (by decide) ⟨_, rfl, ?_⟩) (fun w' r v' r' h1 h2 => ⟨by rw [h1, h2], trivial⟩)
  · exact if_neg (fun h => absurd h.2 (Int32.not_lt.mpr h.1))
  · exact if_neg (fun h => absurd (Int32.lt_of_le_of_lt h.1 h.2) (by decide))
theorem o_count (i : Int32) : pS kP_count kX_count [zI i] (fun _ _ => True) w0 v0 := by
  refine pS.of (P := fun _ r => r = cnt7 0 0 0 0 1 1 0 i) (P' := fun _ r => r = cnt7 0 0 0 0 1 1 0 i) (e_count (Or.inr rfl) ⟨_, rfl, rfl⟩) (m_count ⟨_, rfl, rfl⟩) (fun w' r v' r' h1 h2 => ⟨by rw [h1, h2], trivial⟩)
theorem o_stop (i : Int32) : pT kP_stop kX_stop [zI i] (fun _ _ => True) w0 v0 := by
  obtain ⟨n, w', r, h1, h2⟩ := cRun.to (k := kP_stop) (as := [zI i]) (w := w0) (P := fun _ r => (i < 0 → r = 0) ∧ (¬ i < 0 → r = 1)) (e_stop rfl (fun h => ⟨0, rfl, fun _ => rfl, fun h9 => absurd h h9⟩) (fun h => ⟨1, rfl, fun h9 => absurd h9 h, fun _ => rfl⟩))
  obtain ⟨n', v', r', h3, h4, h5⟩ := mRun.to (k := kX_stop) (as := [zI i]) (w := v0) (P := fun v' r => ((i < 0 → r = 0) ∧ (¬ i < 0 → r = 1)) ∧ v'.1 0 0 0 = 0) (m_stopU rfl (fun h => ⟨0, rfl, ⟨fun _ => rfl, fun h9 => absurd h h9⟩, rfl⟩) (fun h => ⟨1, rfl, ⟨fun h9 => absurd h9 h, fun _ => rfl⟩, rfl⟩))
  have e : r = r' := by
    by_cases h : i < 0
    · rw [h2.1 h, h4.1 h]
    · rw [h2.2 h, h4.2 h]
  subst e
  exact ⟨n', w', v', r, h3, Or.inl ⟨n, w', rfl, h1, h5⟩, trivial⟩
theorem o_job (i j : Int32) : pU kP_job kX_job 27 [zI i, zI j] (fun _ _ => True) w0 v0 := by
  obtain ⟨n', v', r', h3, rfl, h5⟩ := mRun.to (k := kX_job) (as := [zI i, zI j]) (w := v0) (P := fun v' r => r = 0 ∧ v'.1 0 0 0 = 2) (by
    refine z_C.go 2 rfl ?_
    refine z_C.call rfl rfl (m_find (n := 0) (Q := fun w' r => w' = v0 ∧ r = some (zI (-1))) rfl (by omega) ⟨rfl, rfl⟩) (fun w' r h => ?_)
    obtain ⟨rfl, rfl⟩ := h
    refine z_C.go 14 rfl ?_
    exact z_C.ret rfl rfl ⟨0, rfl, rfl, rfl⟩)
  refine ⟨n', w0, v', 0, h3, Or.inr (Or.inr ⟨rfl, h5, [some (zR 0 0), some (zI i), some (zI j), some (.inr (.inr none))], ?_⟩), trivial⟩
  refine z_K.go 1 rfl ?_
  refine z_K.call rfl rfl (k_refuse rfl ?_)
  refine z_K.go 3 rfl ?_
  refine z_K.call rfl rfl (k_find (n := 0) rfl (by omega) ?_)
  refine z_K.go 3 rfl ?_
  exact z_K.nil rfl
theorem o_pixel (i j k : Int32) : pU kP_pixel kX_pixel 38 [zI i, zI j, zI k] (fun _ _ => True) w0 v0 := by
  obtain ⟨n', v', r', h3, rfl, h5⟩ := mRun.to (k := kX_pixel) (as := [zI i, zI j, zI k]) (w := v0) (P := fun v' r => r = 0 ∧ v'.1 0 0 0 = 2) (by
    refine z_C.go 2 rfl ?_
    refine z_C.call rfl rfl (m_find (n := 0) (Q := fun w' r => w' = v0 ∧ r = some (zI (-1))) rfl (by omega) ⟨rfl, rfl⟩) (fun w' r h => ?_)
    obtain ⟨rfl, rfl⟩ := h
    refine z_C.go 15 rfl ?_
    exact z_C.ret rfl rfl ⟨0, rfl, rfl, rfl⟩)
  refine ⟨n', w0, v', 0, h3, Or.inr (Or.inr ⟨rfl, h5, [some (zR 0 0), some (zI i), some (zI j), some (zI k), some (.inr (.inr none))], ?_⟩), trivial⟩
  refine z_K.go 1 rfl ?_
  refine z_K.call rfl rfl (k_refuse rfl ?_)
  refine z_K.go 3 rfl ?_
  refine z_K.call rfl rfl (k_find (n := 0) rfl (by omega) ?_)
  refine z_K.go 3 rfl ?_
  exact z_K.nil rfl
theorem one_ok : pOK (fun _ _ => True) w0 v0 := ⟨o_put, o_request, o_reply, o_tick, o_sheet, o_stop, o_restart, o_job, o_pixel, o_count⟩
theorem pure_4 : pureOK 4 := by
  refine ⟨fun j w v => j = 0 → w = w0 ∧ v = v0, fun _ => ⟨rfl, rfl⟩, fun j w v hj h => ?_, fun j w v hj h h9 => by omega⟩
  obtain rfl : j = 0 := by omega
  obtain ⟨rfl, rfl⟩ := h rfl
  have e : (fun (w v : z_W) => 0 + 1 = 0 → w = w0 ∧ v = v0) = fun _ _ => True := by
    funext w v
    exact propext ⟨fun _ => trivial, fun _ h => by omega⟩
  show pOK (fun w v => 0 + 1 = 0 → w = w0 ∧ v = v0) w0 v0
  rw [e]
  exact one_ok
