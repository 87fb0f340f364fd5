/-! reply, sheet, stop, count -/
def atR (f : Nat → Int32) (r k : Int32) : Int32 := if 0 ≤ k ∧ k < r then f k.toNatClampNeg else -1
theorem i_nn {k : Int32} (h : 0 ≤ k) : 0 ≤ k.toInt := by
  have := Int32.le_iff_toInt_le.mp h
  simpa using this
theorem z_inI {i : Int32} {n : Nat} (h1 : 0 ≤ i.toInt) (h2 : i.toInt < (n : Int)) : z_in i n = true := by
  unfold z_in
  simp [h1, h2]
theorem e_at {b : Nat} {k : Int32} {w : z_W} {Q : z_W → Option z_V → Prop} (hl : (w.1 1 b 1).toInt ≤ (sCl 2 b : Int)) (hq : Q w (some (zI (atR (w.1 2 b) (w.1 1 b 1) k)))) : cRun kB_at (0, [some (zR 1 b), some (zI k)], [], w) Q := by
  unfold atR at hq
  refine z_C.go 2 rfl ?_
  refine z_C.if (fun h => ?_) (fun h => ?_)
  · rw [if_neg (fun h9 => absurd h (Int32.not_lt.mpr h9.1))] at hq
    refine z_C.go 1 rfl ?_
    exact z_C.ret rfl rfl hq
  · have h0 : 0 ≤ k := Int32.not_lt.mp h
    refine z_C.go 4 rfl ?_
    refine z_C.if (fun h' => ?_) (fun h' => ?_)
    · rw [if_neg (fun h9 => absurd h9.2 (Int32.not_lt.mpr h'))] at hq
      refine z_C.go 1 rfl ?_
      exact z_C.ret rfl rfl hq
    · have h1 : k < w.1 1 b 1 := Int32.not_le.mp h'
      rw [if_pos ⟨h0, h1⟩] at hq
      have a2 := Int32.lt_iff_toInt_lt.mp h1
      refine z_C.go 3 rfl ?_
      refine z_C.go1 rfl (if_pos ⟨rfl, z_inI (i_nn h0) (show _ < ((sCl 2 b : Nat) : Int) by omega)⟩) ?_
      refine z_C.go 1 rfl ?_
      exact z_C.ret rfl rfl hq
theorem e_reply {k : Int32} {w : z_W} {Q : z_W → Option z_V → Prop} (hl : (w.1 1 1 1).toInt ≤ 512) (hq : Q w (some (zI (atR (w.1 2 1) (w.1 1 1 1) k)))) : cRun kP_reply (0, [some (zR 0 0), some (zI k)], [], w) Q := by
  refine z_C.go 3 rfl ?_
  refine z_C.call rfl rfl (e_at (b := 1) (Q := fun w' r => w' = w ∧ r = some (zI (atR (w.1 2 1) (w.1 1 1 1) k))) hl ⟨rfl, rfl⟩) (fun w' r h => ?_)
  obtain ⟨rfl, rfl⟩ := h
  exact z_C.ret rfl rfl hq
theorem e_sheet {k : Int32} {w : z_W} {Q : z_W → Option z_V → Prop} (hl : (w.1 1 2 1).toInt ≤ 256) (hq : Q w (some (zI (atR (w.1 2 2) (w.1 1 2 1) k)))) : cRun kP_sheet (0, [some (zR 0 0), some (zI k)], [], w) Q := by
  refine z_C.go 4 rfl ?_
  refine z_C.call rfl rfl (e_at (b := 2) (Q := fun w' r => w' = w ∧ r = some (zI (atR (w.1 2 2) (w.1 1 2 1) k))) hl ⟨rfl, rfl⟩) (fun w' r h => ?_)
  obtain ⟨rfl, rfl⟩ := h
  exact z_C.ret rfl rfl hq
theorem m_reply {k : Int32} {v : z_W} {Q : z_W → Option z_V → Prop} (hl : (v.1 0 0 23).toInt ≤ 800) (hq : Q (m_thr 0 v) (some (zI (atR (v.1 5 0) (v.1 0 0 23) k)))) : mRun kX_reply (0, [some (zR 0 0), some (zI k)], [], v) Q := by
  unfold atR at hq
  refine z_C.go 5 rfl ?_
  refine z_C.if (fun h => ?_) (fun h => ?_)
  · rw [if_neg (fun h9 => absurd h (Int32.not_lt.mpr h9.1))] at hq
    refine z_C.go 2 rfl ?_
    exact z_C.ret rfl rfl hq
  · have h0 : 0 ≤ k := Int32.not_lt.mp h
    refine z_C.go 4 rfl ?_
    refine z_C.if (fun h' => ?_) (fun h' => ?_)
    · have h1 : k < v.1 0 0 23 := h'
      rw [if_pos ⟨h0, h1⟩] at hq
      have a2 := Int32.lt_iff_toInt_lt.mp h1
      refine z_C.go 3 rfl ?_
      refine z_C.go1 rfl (if_pos ⟨rfl, z_inI (i_nn h0) (show _ < ((800 : Nat) : Int) by omega)⟩) ?_
      exact z_C.ret rfl rfl hq
    · rw [if_neg (fun h9 => absurd h9.2 h')] at hq
      refine z_C.go 2 rfl ?_
      exact z_C.ret rfl rfl hq
theorem m_sheet {k : Int32} {v : z_W} {Q : z_W → Option z_V → Prop} (hl : (v.1 0 0 25).toInt ≤ 300) (hq : Q (m_thr 0 v) (some (zI (atR (v.1 6 0) (v.1 0 0 25) k)))) : mRun kX_sheet (0, [some (zR 0 0), some (zI k)], [], v) Q := by
  unfold atR at hq
  refine z_C.go 5 rfl ?_
  refine z_C.if (fun h => ?_) (fun h => ?_)
  · rw [if_neg (fun h9 => absurd h (Int32.not_lt.mpr h9.1))] at hq
    refine z_C.go 2 rfl ?_
    exact z_C.ret rfl rfl hq
  · have h0 : 0 ≤ k := Int32.not_lt.mp h
    refine z_C.go 4 rfl ?_
    refine z_C.if (fun h' => ?_) (fun h' => ?_)
    · have h1 : k < v.1 0 0 25 := h'
      rw [if_pos ⟨h0, h1⟩] at hq
      have a2 := Int32.lt_iff_toInt_lt.mp h1
      refine z_C.go 3 rfl ?_
      refine z_C.go1 rfl (if_pos ⟨rfl, z_inI (i_nn h0) (show _ < ((300 : Nat) : Int) by omega)⟩) ?_
      exact z_C.ret rfl rfl hq
    · rw [if_neg (fun h9 => absurd h9.2 h')] at hq
      refine z_C.go 2 rfl ?_
      exact z_C.ret rfl rfl hq
theorem zC_up {C' : Nat → Nat → Option z_I} {mi : Nat} {f : z_F} {Q : z_W → Option z_V → Prop} (h : z_C sC zM zCr mi f Q) : cRun mi f Q := z_C.sub (fun _ _ _ h => (zCr_in h).1) h
/-- a house that is up goes on -/
theorem k_refuse {w : z_W} {Q : z_W → Option z_V → Prop} (hu : w.1 11 0 2 = 1) (hq : Q w none) : z_C sC zM zCr kP_refuseIfDown (0, [some (zR 0 0)], [], w) Q := by
  refine z_C.go 2 rfl ?_
  refine z_C.call rfl rfl (k_isUp (Q := fun w' r => w' = w ∧ r = some (zI (w.1 11 0 2))) (Or.inr hu) ⟨rfl, rfl⟩) (fun w' r h => ?_)
  obtain ⟨rfl, rfl⟩ := h
  refine z_C.go 1 rfl ?_
  refine z_C.if (fun h => ?_) (fun h => ?_)
  · rw [hu] at h
    cases h
  · exact z_C.ret rfl rfl hq
theorem e_stop {k : Int32} {w : z_W} {Q : z_W → Option z_V → Prop} (hu : w.1 11 0 2 = 1) (h0 : k < 0 → Q w (some (zI 0))) (h1 : ¬ k < 0 → Q (z_si w 11 0 3 k) (some (zI 1))) : cRun kP_stop (0, [some (zR 0 0), some (zI k)], [], w) Q := by
  refine z_C.go 1 rfl ?_
  refine z_C.call rfl rfl (zC_up (C' := zC) (k_refuse (Q := fun w' r => w' = w ∧ r = none) hu ⟨rfl, rfl⟩)) (fun w' r h => ?_)
  obtain ⟨rfl, rfl⟩ := h
  refine z_C.go 2 rfl ?_
  refine z_C.if (fun h => ?_) (fun h => ?_)
  · refine z_C.go 3 rfl ?_
    refine z_C.call (Q' := fun w'' r => w'' = z_si w' 11 0 3 k ∧ r = none) rfl rfl ?_ (fun w'' r h => ?_)
    · refine z_C.go 3 rfl ?_
      exact z_C.ret rfl rfl ⟨rfl, rfl⟩
    obtain ⟨rfl, rfl⟩ := h
    refine z_C.go 1 rfl ?_
    exact z_C.ret rfl rfl (h1 (Int32.not_lt.mpr h))
  · refine z_C.go 1 rfl ?_
    exact z_C.ret rfl rfl (h0 (Int32.not_le.mp h))
theorem m_stopU {k : Int32} {v : z_W} {Q : z_W → Option z_V → Prop} (hu : v.1 0 0 1 = 0) (h0 : k < 0 → Q (m_thr 0 v) (some (zI 0))) (h1 : ¬ k < 0 → Q (z_si (z_si (m_thr 0 v) 0 0 11 1) 0 0 12 k) (some (zI 1))) : mRun kX_stop (0, [some (zR 0 0), some (zI k)], [], v) Q := by
  refine z_C.go 4 rfl ?_
  refine z_C.if (fun h => ?_) (fun h => absurd hu h)
  refine z_C.go 5 rfl ?_
  refine z_C.if (fun _ => ?_) (fun h => absurd hu h)
  refine z_C.go 2 rfl ?_
  refine z_C.if (fun h => ?_) (fun h => ?_)
  · refine z_C.go 7 rfl ?_
    exact z_C.ret rfl rfl (h1 (Int32.not_lt.mpr h))
  · refine z_C.go 1 rfl ?_
    exact z_C.ret rfl rfl (h0 (Int32.not_le.mp h))
