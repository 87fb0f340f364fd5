/-! put of the reference; from runs to what the law wants -/
theorem cRun.to {k : Nat} {as : List z_V} {w : z_W} {P : z_W → Int32 → Prop} (h : cRun k (0, z_entry (zM k).2.2.1 (zR 0 0 :: as), [], w) (fun w' r => ∃ i, r = some (zI i) ∧ P w' i)) : ∃ (n : Nat) (w' : z_W) (i : Int32), crun k as w n w' i ∧ P w' i := by
  obtain ⟨n, w', r, h1, i, rfl, h2⟩ := h
  exact ⟨n, w', i, h1, h2⟩
theorem mRun.to {k : Nat} {as : List z_V} {w : z_W} {P : z_W → Int32 → Prop} (h : mRun k (0, z_entry (zM k).2.2.1 (zR 0 0 :: as), [], w) (fun w' r => ∃ i, r = some (zI i) ∧ P w' i)) : ∃ (n : Nat) (w' : z_W) (i : Int32), mrun k as w n w' i ∧ P w' i := by
  obtain ⟨n, w', r, h1, i, rfl, h2⟩ := h
  exact ⟨n, w', i, h1, h2⟩
/-- a call that cannot throw, out of two contracts -/
theorem pS.of {kc km : Nat} {as : List z_V} {Rel : z_W → z_W → Prop} {w v : z_W} {P P' : z_W → Int32 → Prop} (h1 : cRun kc (0, z_entry (zM kc).2.2.1 (zR 0 0 :: as), [], w) (fun w' r => ∃ i, r = some (zI i) ∧ P w' i)) (h2 : mRun km (0, z_entry (zM km).2.2.1 (zR 0 0 :: as), [], v) (fun w' r => ∃ i, r = some (zI i) ∧ P' w' i))
    (h : ∀ w' i v' i', P w' i → P' v' i' → i = i' ∧ Rel w' v') : pS kc km as Rel w v := by
  obtain ⟨n, w', i, g1, g2⟩ := cRun.to h1
  obtain ⟨n', v', i', g3, g4⟩ := mRun.to h2
  obtain ⟨rfl, h5⟩ := h w' i v' i' g2 g4
  exact ⟨n, n', w', v', i, g1, g3, h5⟩
def mByte (y : Int64) (k : Nat) : Int32 := ((y >>> ((8 * iN k).toInt64 &&& 63)) &&& 255).toInt32
def mPut1 (x : Int32) (v : z_W) : z_W := z_si (z_si v 1 0 (v.1 0 0 2).toNatClampNeg x) 0 0 2 (v.1 0 0 2 + 1)
def mPutN (y : Int64) : Nat → z_W → z_W
  | 0, v => v
  | k + 1, v => mPutN y k (mPut1 (mByte y k) v)
theorem m_put_loop {y : Int64} {nn : Int32} {Q : z_W → Option z_V → Prop} : ∀ (k : Nat) (i : Int32) (v : z_W) (n : Nat), k ≤ 8 → i = iN k - 1 → v.1 0 0 2 = iN n → n + k ≤ 240 → Q (mPutN y k v) (some (zI 1)) →
    mRun kX_put (35, [some (zR 0 0), some (zL y), none, some (zI nn), some (zI i)], [], v) Q := by
  intro k
  induction k with
  | zero =>
    intro i v n hk hi hn hn2 hq
    refine z_C.go 2 rfl ?_
    refine z_C.if (fun h => ?_) (fun h => absurd (by rw [hi]; decide) h)
    refine z_C.go 1 rfl ?_
    exact z_C.ret rfl rfl hq
  | succ k ih =>
    intro i v n hk hi hn hn2 hq
    rw [iN_pred] at hi
    refine z_C.go 2 rfl ?_
    refine z_C.if (fun h => ?_) (fun h => ?_)
    · rw [hi] at h
      exact absurd ((iN_lt (a := k) (b := 0) (by omega) (by omega)).mp h) (Nat.not_lt_zero k)
    · have h3 : z_in (v.1 0 0 2) 240 = true := by
        rw [hn]
        exact iN_in (by omega) (by omega)
      refine z_C.go 12 rfl ?_
      refine z_C.go1 rfl (if_pos ⟨rfl, h3⟩) ?_
      refine z_C.go 8 rfl ?_
      subst hi
      refine ih _ (mPut1 (mByte y k) v) (n + 1) (by omega) (Int32.sub_eq_add_neg _ _).symm ?_ (by omega) hq
      show v.1 0 0 2 + 1 = iN (n + 1)
      rw [hn]
      exact iN_add n 1
def m_thr (x : Int32) (v : z_W) : z_W := z_si v 0 0 0 x
theorem m_put {n : Nat} {y : Int64} {i : Int32} {v : z_W} {Q : z_W → Option z_V → Prop} (hn : v.1 0 0 2 = iN n) (hn2 : n ≤ 240) (h0 : ¬ putOK n i → Q (m_thr 0 v) (some (zI 0))) (h1 : ∀ k, i = iN k → k ≤ 8 → 1 ≤ k → putOK n i → Q (mPutN y k (m_thr 0 v)) (some (zI 1))) :
    mRun kX_put (0, [some (zR 0 0), some (zL y), none, some (zI i), none], [], v) Q := by
  refine z_C.go 6 rfl ?_
  refine z_C.if (fun h => ?_) (fun h => ?_)
  · refine z_C.go 1 rfl ?_
    exact z_C.ret rfl rfl (h0 (fun h9 => absurd h (Int32.not_lt.mpr h9.1)))
  have g1 : 1 ≤ i := Int32.not_lt.mp h
  refine z_C.go 3 rfl ?_
  refine z_C.if (fun h => ?_) (fun h => ?_)
  · refine z_C.go 1 rfl ?_
    exact z_C.ret rfl rfl (h0 (fun h9 => absurd h (Int32.not_lt.mpr h9.2.1)))
  have g2 : i ≤ 8 := Int32.not_lt.mp h
  refine z_C.go 6 rfl ?_
  refine z_C.if (fun h => ?_) (fun h => ?_)
  · have h : v.1 0 0 2 + i ≤ 240 := h
    rw [hn] at h
    have hp : putOK n i := ⟨g1, g2, h⟩
    have g0 : (0 : Int32) ≤ i := Int32.le_trans (by decide) g1
    obtain ⟨e1, e2⟩ := iN_of g0
    generalize i.toInt.toNat = k at e1 e2
    subst e1
    have k8 : k ≤ 8 := (iN_le (b := 8) e2 (by decide)).mp g2
    have k1 : 1 ≤ k := (iN_le (a := 1) (by decide) e2).mp g1
    rw [iN_add] at h
    have hs : n + k ≤ 240 := (iN_le (b := 240) (by omega) (by decide)).mp h
    refine z_C.go 4 rfl ?_
    exact m_put_loop k _ (m_thr 0 v) n k8 rfl hn hs (h1 k rfl k8 k1 hp)
  · have h : ¬ v.1 0 0 2 + i ≤ 240 := h
    rw [hn] at h
    refine z_C.go 1 rfl ?_
    exact z_C.ret rfl rfl (h0 (fun h9 => absurd h9.2.2 h))
