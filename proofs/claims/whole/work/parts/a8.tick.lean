/-! a tick: a sheet is sent, and the job may be done with it -/
theorem cLv.sent {n r k x : Nat} {A : Nat → Nat → Nat} {w w2 : z_W} (h : cLv n A w) (hf : sF r w w2) : cLv n (aSet A k 9 x) w2 := by
  obtain ⟨⟨h1, h2⟩, h3⟩ := h
  have er : w2.2.2 = w.2.2 := by rw [hf.1]
  refine ⟨⟨h1, (hf.2.1 12 0 2 (by omega) (by omega) (by omega) (by omega)).trans h2⟩, fun l hl => ?_⟩
  obtain ⟨a1, a2, a3, a4⟩ := h3 l hl
  rw [er, aSet_f (by decide), aSet_f (by decide)]
  exact ⟨(hf.2.1 9 _ 2 (fun h => by omega) (by omega) (by omega) (fun h => absurd h.2.2 (by omega))).trans a1, (hf.2.1 9 _ 8 (fun h => by omega) (by omega) (by omega) (fun h => absurd h.2.2 (by omega))).trans a2, a3, a4⟩
theorem cK.sent {r j : Nat} {a : Nat → Nat} {P : Nat → Int32} {w w2 : z_W} (h : cK r a P w) (hf : sF j w w2) : cK r a P w2 :=
  ⟨fun f h1 h2 => (hf.2.1 9 r f (fun h => by omega) (by omega) (by omega) (fun h => by omega)).trans (h.1 f h1 h2), fun q hq => (hf.2.1 10 r q (fun h => by omega) (by omega) (by omega) (fun h => absurd h.1 (by omega))).trans (h.2 q hq)⟩
theorem nTot_of {a : Nat → Nat} {nx : Nat} (hj : aJob a nx) : iN (a 3) * iCopy (iN (a 5)) (iN (a 6)) (iN (a 7)) (iN (a 8)) = iN (nTot a) := by
  rw [hj.copy.1, iN_mul]
  rfl
theorem c_tickB {n lg nx r k t : Nat} {A : Nat → Nat → Nat} {P : Nat → Int32} {st : Option Nat} {w : z_W} {Q : z_W → Option z_V → Prop} (hj : aJob (A k) nx) (hk : cK r (A k) P w) (ht : w.1 9 r 9 = iN t) (htt : t < nTot (A k)) (hlg : lg ≤ 40) (h1 : w.1 11 0 1 = iN lg) (hc : cLv n A w) (hlv : nLive (aSet A k 9 (t + 1)) n ≤ 90)
    (h5 : ∀ k, k < 20 → w.2.2 13 0 k < 20) (h6 : ∀ k l, k < 20 → l < 20 → w.2.2 13 0 k = w.2.2 13 0 l → k = l) (hs : stopIs st (w.1 11 0 3))
    (K1 : t + 1 < nTot (A k) → ∀ w2, sF r w w2 → bOut 2 (sheetL (A k) P (t % nC (A k))) w2 → Q w2 (some (zI (iN (A k 1)))))
    (K2 : ¬ t + 1 < nTot (A k) → (aT 1 lg (nLive (aSet A k 9 (t + 1)) n) st).1 = true → ∀ w2 w3, sF r w w2 → bOut 2 (sheetL (A k) P (t % nC (A k))) w2 → cT (aT 1 lg (nLive (aSet A k 9 (t + 1)) n) st) n (aSet A k 9 (t + 1)) w2 w3 → Q (z_si w3 9 r 2 9) (some (zI (iN (A k 1)))))
    (K3 : ¬ t + 1 < nTot (A k) → ¬ (aT 1 lg (nLive (aSet A k 9 (t + 1)) n) st).1 = true → ∀ w2 w3, sF r w w2 → bOut 2 (sheetL (A k) P (t % nC (A k))) w2 → cT (aT 1 lg (nLive (aSet A k 9 (t + 1)) n) st) n (aSet A k 9 (t + 1)) w2 w3 → Q (bClr 1 w3) (some (zI (-1)))) :
    cRun kP_tick (47, [some (zR 0 0), some (zR 9 r)], [], w) Q := by
  have htot := hj.tot
  refine z_C.go 3 rfl ?_
  refine z_C.call rfl rfl (e_sent (j := r) (t := t) (Q := fun w2 r' => r' = none ∧ sF r w w2 ∧ bOut 2 (sheetL (A k) P (t % nC (A k))) w2) hj hk ht (by omega) (fun w2 h1 h2 => ⟨rfl, h1, h2⟩)) (fun w2 r' h => ?_)
  obtain ⟨rfl, f2, o2⟩ := h
  have hk2 := hk.sent f2
  have ht2 : w2.1 9 r 9 = iN (t + 1) := by rw [f2.2.2.2, ht]; exact iN_add t 1
  have hn2 : w2.1 9 r 1 = iN (A k 1) := hk2.1 1 (by decide) (by decide)
  refine z_C.go 1 rfl ?_
  refine z_C.ld rfl rfl ht2 ?_
  refine z_C.go 1 rfl ?_
  refine z_C.call rfl rfl (zC_up (C' := zC) (k_sheets (j := r) (Q := fun w' r' => w' = w2 ∧ r' = some (zI (iN (nTot (A k))))) ⟨rfl, by rw [hk2.1 3 (by decide) (by decide), hk2.1 5 (by decide) (by decide), hk2.1 6 (by decide) (by decide), hk2.1 7 (by decide) (by decide), hk2.1 8 (by decide) (by decide), nTot_of hj]⟩)) (fun w' r' h => ?_)
  obtain ⟨rfl, rfl⟩ := h
  refine z_C.go 1 rfl ?_
  refine z_C.if (fun h => ?_) (fun h => ?_)
  · have h := (iN_lt (by omega) (by omega)).mp h
    refine z_C.go 1 rfl ?_
    refine z_C.ld rfl rfl hn2 ?_
    exact z_C.ret rfl rfl (K1 h w' f2 o2)
  · have h : ¬ t + 1 < nTot (A k) := fun h9 => h ((iN_lt (by omega) (by omega)).mpr h9)
    have er : w'.2.2 = w.2.2 := by rw [f2.1]
    refine z_C.go 4 rfl ?_
    by_cases hT : (aT 1 lg (nLive (aSet A k 9 (t + 1)) n) st).1 = true
    · refine z_C.call rfl rfl (e_changeState (r := r) (x := 9) (n := n) (lg := lg) (A := aSet A k 9 (t + 1)) (st := st) (Q := fun w4 r' => r' = some (zI 1) ∧ ∃ w3, w4 = z_si w3 9 r 2 9 ∧ cT (aT 1 lg (nLive (aSet A k 9 (t + 1)) n) st) n (aSet A k 9 (t + 1)) w' w3) hlg ((f2.2.1 11 0 1 (by omega) (by omega) (by omega) (by omega)).trans h1) (hc.sent f2) hlv (by rw [er]; exact h5) (by rw [er]; exact h6) (by rw [f2.2.1 11 0 3 (by omega) (by omega) (by omega) (by omega)]; exact hs) (fun w3 h3 _ => ⟨rfl, w3, rfl, h3⟩) (fun w3 _ h9 => absurd hT h9)) (fun w4 r' h4 => ?_)
      obtain ⟨rfl, w3, rfl, h3⟩ := h4
      have hn3 : (z_si w3 9 r 2 9).1 9 r 1 = iN (A k 1) := (if_neg (fun h => absurd h.2.2 (by decide))).trans ((h3.1 9 r 1 (by omega) (by omega)).trans hn2)
      refine z_C.go 1 rfl ?_
      refine z_C.if (fun h => absurd h (by decide)) (fun _ => ?_)
      refine z_C.go 1 rfl ?_
      refine z_C.ld rfl rfl hn3 ?_
      exact z_C.ret rfl rfl (K2 h hT w' w3 f2 o2 h3)
    · refine z_C.call rfl rfl (e_changeState (r := r) (x := 9) (n := n) (lg := lg) (A := aSet A k 9 (t + 1)) (st := st) (Q := fun w3 r' => r' = some (zI 0) ∧ cT (aT 1 lg (nLive (aSet A k 9 (t + 1)) n) st) n (aSet A k 9 (t + 1)) w' w3) hlg ((f2.2.1 11 0 1 (by omega) (by omega) (by omega) (by omega)).trans h1) (hc.sent f2) hlv (by rw [er]; exact h5) (by rw [er]; exact h6) (by rw [f2.2.1 11 0 3 (by omega) (by omega) (by omega) (by omega)]; exact hs) (fun w3 _ h9 => absurd h9 hT) (fun w3 h3 _ => ⟨rfl, h3⟩)) (fun w3 r' h4 => ?_)
      obtain ⟨rfl, h3⟩ := h4
      refine z_C.go 1 rfl ?_
      refine z_C.if (fun _ => ?_) (fun h => absurd (by decide) h)
      refine z_C.go 1 rfl ?_
      refine z_C.call rfl rfl (e_goneDown (Q := fun w' r => w' = bClr 1 w3 ∧ r = some (zI (-1))) ⟨rfl, rfl⟩) (fun w5 r' h5 => ?_)
      obtain ⟨rfl, rfl⟩ := h5
      exact z_C.ret rfl rfl (K3 h hT w' w3 f2 o2 h3)
theorem mLv.sent {n k x : Nat} {y : Int32} {A : Nat → Nat → Nat} {v v2 : z_W} (h : mLv n A v) (hf : sM v v2) : mLv n (aSet A k 9 x) (z_si v2 2 0 (10 * k + 8) y) := by
  obtain ⟨⟨h1, h2⟩, h3⟩ := h
  refine ⟨⟨h1, (hf.2.1 0 0 4 (by omega) (by omega) (by omega)).trans h2⟩, fun l hl => ?_⟩
  obtain ⟨a1, a2, a3, a4⟩ := h3 l hl
  rw [aSet_f (by decide), aSet_f (by decide)]
  exact ⟨(if_neg (fun h => by omega)).trans ((hf.2.1 2 0 _ (by omega) (by omega) (by omega)).trans a1), (if_neg (fun h => by omega)).trans ((hf.2.1 2 0 _ (by omega) (by omega) (by omega)).trans a2), a3, a4⟩
theorem m_tickB {n lg nx k l t : Nat} {A : Nat → Nat → Nat} {P : Nat → Int32} {st : Option Nat} {v : z_W} {Q : z_W → Option z_V → Prop} (hj : aJob (A k) nx) (hk : mK k (A k) P v) (ht : v.1 2 0 (10 * k + 8) = iN t) (htt : t < nTot (A k)) (hlg : lg ≤ 40) (h1 : v.1 0 0 9 = iN lg) (hc : mLv n A v) (hlv : nLive (aSet A k 9 (t + 1)) n ≤ 90) (hs : stM st v) (hl24 : l ≤ 24)
    (hfd : ∀ v2 v1, sM v v2 → mT (aT 1 lg (nLive (aSet A k 9 (t + 1)) n) st) n (aSet A k 9 (t + 1)) (z_si v2 2 0 (10 * k + 8) (iN (t + 1))) v1 → v1.1 0 0 4 = iN (tN (aT 1 lg (nLive (aSet A k 9 (t + 1)) n) st) n (aSet A k 9 (t + 1))) ∧ fndF (fun j => v1.1 2 0 (10 * j)) (iN (A k 1)) (tN (aT 1 lg (nLive (aSet A k 9 (t + 1)) n) st) n (aSet A k 9 (t + 1))) 0 = some l)
    (K1 : t + 1 < nTot (A k) → ∀ v2, sM v v2 → mOut 6 25 (sheetL (A k) P (t % nC (A k))) v2 → Q (z_si v2 2 0 (10 * k + 8) (iN (t + 1))) (some (zI (iN (A k 1)))))
    (K2 : ¬ t + 1 < nTot (A k) → (aT 1 lg (nLive (aSet A k 9 (t + 1)) n) st).1 = true → ∀ v2 v3, sM v v2 → mOut 6 25 (sheetL (A k) P (t % nC (A k))) v2 → mT (aT 1 lg (nLive (aSet A k 9 (t + 1)) n) st) n (aSet A k 9 (t + 1)) (z_si v2 2 0 (10 * k + 8) (iN (t + 1))) v3 → Q (z_si v3 2 0 (10 * l + 1) 9) (some (zI (iN (A k 1)))))
    (K3 : ¬ t + 1 < nTot (A k) → ¬ (aT 1 lg (nLive (aSet A k 9 (t + 1)) n) st).1 = true → ∀ v2 v3, sM v v2 → mOut 6 25 (sheetL (A k) P (t % nC (A k))) v2 → mT (aT 1 lg (nLive (aSet A k 9 (t + 1)) n) st) n (aSet A k 9 (t + 1)) (z_si v2 2 0 (10 * k + 8) (iN (t + 1))) v3 → Q (gdn (tN (aT 1 lg (nLive (aSet A k 9 (t + 1)) n) st) n (aSet A k 9 (t + 1))) v3) (some (zI (-1)))) :
    mRun kX_tick (93, [some (zR 0 0), some (zI (iN k)), some (zI (iN (A k 1)))], [], v) Q := by
  have htot := hj.tot
  obtain ⟨hk1, hk2, hk3⟩ := hk
  obtain ⟨-, i8, n8⟩ := j_ix (k := k) (f := 8) (by omega) (by decide)
  obtain ⟨-, i2, n2⟩ := j_ix (k := k) (f := 2) (by omega) (by decide)
  refine z_C.go 2 rfl ?_
  refine z_C.call rfl rfl (m_sent (k := k) (t := t) (Q := fun v2 r' => r' = none ∧ sM v v2 ∧ mOut 6 25 (sheetL (A k) P (t % nC (A k))) v2) hj ⟨hk1, hk2, hk3⟩ ht (by omega) (fun v2 h1 h2 => ⟨rfl, h1, h2⟩)) (fun v2 r' h => ?_)
  obtain ⟨rfl, f2, o2⟩ := h
  have v8 : v2.1 2 0 (10 * iN k + iN 8).toNatClampNeg = iN t := by rw [n8]; exact (f2.2.1 2 0 _ (by omega) (by omega) (by omega)).trans ht
  refine z_C.go 8 rfl ?_
  refine z_C.ld rfl (if_pos ⟨rfl, i8⟩) v8 ?_
  refine z_C.go 2 rfl ?_
  refine z_C.go1 rfl (if_pos ⟨rfl, i8⟩) ?_
  have e9 : z_si v2 2 0 (10 * iN k + iN 8).toNatClampNeg (iN t + 1) = z_si v2 2 0 (10 * k + 8) (iN (t + 1)) := by
    rw [n8, ← iN_add t 1]
    rfl
  show mRun kX_tick (114, [some (zR 0 0), some (zI (iN k)), some (zI (iN (A k 1)))], [], z_si v2 2 0 (10 * iN k + iN 8).toNatClampNeg (iN t + 1)) Q
  rw [e9]
  have w8 : (z_si v2 2 0 (10 * k + 8) (iN (t + 1))).1 2 0 (10 * iN k + iN 8).toNatClampNeg = iN (t + 1) := by rw [n8]; exact if_pos ⟨rfl, rfl, rfl⟩
  have hf3 : ∀ f, 1 ≤ f → f ≤ 8 → (z_si v2 2 0 (10 * k + 8) (iN (t + 1))).1 2 0 (10 * k + (f - 1)) = iN (A k f) := fun f g1 g2 => (if_neg (fun h => by omega)).trans ((f2.2.1 2 0 _ (by omega) (by omega) (by omega)).trans (hk2 f g1 g2))
  have w2' : (z_si v2 2 0 (10 * k + 8) (iN (t + 1))).1 2 0 (10 * iN k + iN 2).toNatClampNeg = iN (A k 3) := by rw [n2]; exact hf3 3 (by decide) (by decide)
  have hk3' : mK k (A k) P (z_si v2 2 0 (10 * k + 8) (iN (t + 1))) := ⟨hk1, hf3, fun q hq => (f2.2.1 3 0 _ (by omega) (by omega) (by omega)).trans (hk3 q hq)⟩
  have hc2 := mLv.sent (k := k) (x := t + 1) (y := iN (t + 1)) hc f2
  have hs2 : stM st (z_si v2 2 0 (10 * k + 8) (iN (t + 1))) := stM_cg hs (f2.2.1 0 0 11 (by omega) (by omega) (by omega)) (f2.2.1 0 0 12 (by omega) (by omega) (by omega))
  have h19 : (z_si v2 2 0 (10 * k + 8) (iN (t + 1))).1 0 0 9 = iN lg := (f2.2.1 0 0 9 (by omega) (by omega) (by omega)).trans h1
  have hfd2 := fun v1 => hfd v2 v1 f2
  have L1 := fun h => K1 h v2 f2 o2
  have L2 := fun h hT v3 => K2 h hT v2 v3 f2 o2
  have L3 := fun h hT v3 => K3 h hT v2 v3 f2 o2
  clear K1 K2 K3 hfd e9
  generalize z_si v2 2 0 (10 * k + 8) (iN (t + 1)) = v2' at *
  refine z_C.go 7 rfl ?_
  refine z_C.ld rfl (if_pos ⟨rfl, i8⟩) w8 ?_
  refine z_C.go 2 rfl ?_
  refine z_C.call rfl rfl (m_shs (Q := fun w' r => w' = v2' ∧ r = some (zI (iN (nC (A k))))) hj hk3' ⟨rfl, rfl⟩) (fun w' r' h => ?_)
  obtain ⟨rfl, rfl⟩ := h
  refine z_C.go 7 rfl ?_
  refine z_C.ld rfl (if_pos ⟨rfl, i2⟩) w2' ?_
  refine z_C.go 2 rfl ?_
  have et : iN (nC (A k)) * iN (A k 3) = iN (nTot (A k)) := by rw [iN_mul, Nat.mul_comm]; rfl
  refine z_C.if (fun h => ?_) (fun h => ?_)
  · have h : iN (t + 1) = iN (nC (A k)) * iN (A k 3) := h
    rw [et, iN_inj (by omega) (by omega)] at h
    refine z_C.go 3 rfl ?_
    by_cases hT : (aT 1 lg (nLive (aSet A k 9 (t + 1)) n) st).1 = true
    · refine z_C.call rfl rfl (m_change (k := l) (x := iN (A k 1)) (y := 9) (n := n) (lg := lg) (A := aSet A k 9 (t + 1)) (st := st) (Q := fun v4 r' => r' = some (zI 1) ∧ ∃ v3, v4 = z_si v3 2 0 (10 * l + 1) 9 ∧ mT (aT 1 lg (nLive (aSet A k 9 (t + 1)) n) st) n (aSet A k 9 (t + 1)) w' v3) hlg h19 hc2 hlv hs2 hl24 hfd2 (fun v3 h3 _ => ⟨rfl, v3, rfl, h3⟩) (fun v3 _ h9 => absurd hT h9)) (fun v4 r' h4 => ?_)
      obtain ⟨rfl, v3, rfl, h3⟩ := h4
      refine z_C.go 1 rfl ?_
      refine z_C.if (fun h => absurd h (by decide)) (fun _ => ?_)
      refine z_C.go 1 rfl ?_
      exact z_C.ret rfl rfl (L2 (by omega) hT v3 h3)
    · refine z_C.call rfl rfl (m_change (k := l) (x := iN (A k 1)) (y := 9) (n := n) (lg := lg) (A := aSet A k 9 (t + 1)) (st := st) (Q := fun v4 r' => r' = some (zI 0) ∧ ∃ v3, v4 = gdn (tN (aT 1 lg (nLive (aSet A k 9 (t + 1)) n) st) n (aSet A k 9 (t + 1))) v3 ∧ mT (aT 1 lg (nLive (aSet A k 9 (t + 1)) n) st) n (aSet A k 9 (t + 1)) w' v3) hlg h19 hc2 hlv hs2 hl24 hfd2 (fun v3 _ h9 => absurd h9 hT) (fun v3 h3 _ => ⟨rfl, v3, rfl, h3⟩)) (fun v4 r' h4 => ?_)
      obtain ⟨rfl, v3, rfl, h3⟩ := h4
      refine z_C.go 1 rfl ?_
      refine z_C.if (fun _ => ?_) (fun h => absurd (by decide) h)
      refine z_C.go 1 rfl ?_
      exact z_C.ret rfl rfl (L3 (by omega) hT v3 h3)
  · have h : ¬ iN (t + 1) = iN (nC (A k)) * iN (A k 3) := h
    rw [et, iN_inj (by omega) (by omega)] at h
    refine z_C.go 1 rfl ?_
    exact z_C.ret rfl rfl (L1 (by omega))
