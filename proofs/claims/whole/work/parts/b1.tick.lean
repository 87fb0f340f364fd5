/-! tick, whole -/
section CT
variable {n lg nx k : Nat} {A : Nat → Nat → Nat} {st : Option Nat} {w : z_W} {Q : z_W → Option z_V → Prop}
theorem c_tickP (hu : w.1 11 0 2 = 1) (hn : w.1 12 0 2 = iN n) (hn2 : n ≤ 20) (hf : fndF (fun j => cJ w j 2) 5 n 0 = some k) (K : cRun kP_tick (47, [some (zR 0 0), some (zR 9 (w.2.2 13 0 k))], [], w) Q) : cRun kP_tick (0, [some (zR 0 0), none], [], w) Q := by
  refine z_C.go 1 rfl ?_
  refine z_C.call rfl rfl (zC_up (C' := zC) (k_refuse (Q := fun w' r => w' = w ∧ r = none) hu ⟨rfl, rfl⟩)) (fun w' r h => ?_)
  obtain ⟨rfl, rfl⟩ := h
  refine z_C.go 2 rfl ?_
  refine z_C.call rfl rfl (zC_up (C' := zC) (k_proc (Q := fun w2 r => w2 = w' ∧ r = some (zR 9 (w'.2.2 13 0 k))) hn hn2 ⟨rfl, by rw [hf]; rfl⟩)) (fun w2 r h => ?_)
  obtain ⟨rfl, rfl⟩ := h
  refine z_C.go 3 rfl ?_
  exact K
theorem c_tickN (hu : w.1 11 0 2 = 1) (hr : cRows n A w) (hf : fndF (fun j => cJ w j 2) 5 n 0 = none) (hc : chF (fun i => decide (A i 2 = 3)) A n = none) (K : Q w (some (zI 0))) : cRun kP_tick (0, [some (zR 0 0), none], [], w) Q := by
  refine z_C.go 1 rfl ?_
  refine z_C.call rfl rfl (zC_up (C' := zC) (k_refuse (Q := fun w' r => w' = w ∧ r = none) hu ⟨rfl, rfl⟩)) (fun w' r h => ?_)
  obtain ⟨rfl, rfl⟩ := h
  refine z_C.go 2 rfl ?_
  refine z_C.call rfl rfl (zC_up (C' := zC) (k_proc (Q := fun w2 r => w2 = w' ∧ r = some (.inr (.inr none))) hr.1.2 hr.1.1 ⟨rfl, by rw [hf]; rfl⟩)) (fun w2 r h => ?_)
  obtain ⟨rfl, rfl⟩ := h
  refine z_C.go 5 rfl ?_
  refine z_C.call rfl rfl (zC_up (C' := zC) (k_pend (Q := fun w3 r => w3 = w2 ∧ r = some (.inr (.inr none))) hr ⟨rfl, by rw [hc]; rfl⟩)) (fun w3 r h => ?_)
  obtain ⟨rfl, rfl⟩ := h
  refine z_C.go 4 rfl ?_
  exact z_C.ret rfl rfl K
theorem c_tickQ (hu : w.1 11 0 2 = 1) (hr : cRows n A w) (hf : fndF (fun j => cJ w j 2) 5 n 0 = none) (hc : chF (fun i => decide (A i 2 = 3)) A n = some k) (hlg : lg ≤ 40) (h1 : w.1 11 0 1 = iN lg) (hcl : cLv n A w) (hlv : nLive A n ≤ 90) (h5 : ∀ k, k < 20 → w.2.2 13 0 k < 20) (h6 : ∀ k l, k < 20 → l < 20 → w.2.2 13 0 k = w.2.2 13 0 l → k = l) (hs : stopIs st (w.1 11 0 3))
    (K1 : (aT 1 lg (nLive A n) st).1 = true → ∀ w1, cT (aT 1 lg (nLive A n) st) n A w w1 → cRun kP_tick (47, [some (zR 0 0), some (zR 9 (w.2.2 13 0 k))], [], z_si w1 9 (w.2.2 13 0 k) 2 5) Q) (K2 : ¬ (aT 1 lg (nLive A n) st).1 = true → ∀ w1, cT (aT 1 lg (nLive A n) st) n A w w1 → Q (bClr 1 w1) (some (zI (-1)))) :
    cRun kP_tick (0, [some (zR 0 0), none], [], w) Q := by
  refine z_C.go 1 rfl ?_
  refine z_C.call rfl rfl (zC_up (C' := zC) (k_refuse (Q := fun w' r => w' = w ∧ r = none) hu ⟨rfl, rfl⟩)) (fun w' r h => ?_)
  obtain ⟨rfl, rfl⟩ := h
  refine z_C.go 2 rfl ?_
  refine z_C.call rfl rfl (zC_up (C' := zC) (k_proc (Q := fun w2 r => w2 = w' ∧ r = some (.inr (.inr none))) hr.1.2 hr.1.1 ⟨rfl, by rw [hf]; rfl⟩)) (fun w2 r h => ?_)
  obtain ⟨rfl, rfl⟩ := h
  refine z_C.go 5 rfl ?_
  refine z_C.call rfl rfl (zC_up (C' := zC) (k_pend (Q := fun w3 r => w3 = w2 ∧ r = some (zR 9 (w2.2.2 13 0 k))) hr ⟨rfl, by rw [hc]; rfl⟩)) (fun w3 r h => ?_)
  obtain ⟨rfl, rfl⟩ := h
  refine z_C.go 7 rfl ?_
  by_cases hT : (aT 1 lg (nLive A n) st).1 = true
  · refine z_C.call rfl rfl (e_changeState (r := w3.2.2 13 0 k) (x := 5) (Q := fun w4 r' => r' = some (zI 1) ∧ ∃ w1, w4 = z_si w1 9 (w3.2.2 13 0 k) 2 5 ∧ cT (aT 1 lg (nLive A n) st) n A w3 w1) hlg h1 hcl hlv h5 h6 hs (fun w1 h9 _ => ⟨rfl, w1, rfl, h9⟩) (fun w1 _ h9 => absurd hT h9)) (fun w4 r' h => ?_)
    obtain ⟨rfl, w1, rfl, h9⟩ := h
    refine z_C.go 1 rfl ?_
    refine z_C.if (fun h => absurd h (by decide)) (fun _ => ?_)
    exact K1 hT w1 h9
  · refine z_C.call rfl rfl (e_changeState (r := w3.2.2 13 0 k) (x := 5) (Q := fun w1 r' => r' = some (zI 0) ∧ cT (aT 1 lg (nLive A n) st) n A w3 w1) hlg h1 hcl hlv h5 h6 hs (fun w1 _ h9 => absurd h9 hT) (fun w1 h9 _ => ⟨rfl, h9⟩)) (fun w1 r' h => ?_)
    obtain ⟨rfl, h9⟩ := h
    refine z_C.go 1 rfl ?_
    refine z_C.if (fun _ => ?_) (fun h => absurd (by decide) h)
    refine z_C.go 1 rfl ?_
    refine z_C.call rfl rfl (e_goneDown (Q := fun w' r => w' = bClr 1 w1 ∧ r = some (zI (-1))) ⟨rfl, rfl⟩) (fun w5 r' h5 => ?_)
    obtain ⟨rfl, rfl⟩ := h5
    exact z_C.ret rfl rfl (K2 hT w1 h9)
end CT
section MT
variable {n lg nx k l : Nat} {A : Nat → Nat → Nat} {st : Option Nat} {v : z_W} {Q : z_W → Option z_V → Prop}
theorem m_tickD (hu : v.1 0 0 1 = 1) (K : Q (m_thr 1 v) (some (zI 0))) : mRun kX_tick (0, [some (zR 0 0), none, none], [], v) Q := by
  have hn : ¬ v.1 0 0 1 = 0 := by rw [hu]; decide
  refine z_C.go 4 rfl ?_
  refine z_C.if (fun h => absurd h hn) (fun _ => ?_)
  refine z_C.go 6 rfl ?_
  refine z_C.if (fun h => absurd h hn) (fun _ => ?_)
  refine z_C.go 5 rfl ?_
  refine z_C.if (fun h => absurd h (by decide)) (fun _ => ?_)
  refine z_C.go 1 rfl ?_
  exact z_C.ret rfl rfl K
theorem m_tick0 (hu : v.1 0 0 1 = 0) (hr : mRowsN n A v) (K : mRun kX_tick (32, [some (zR 0 0), some (zI (idxJ (chF (fun i => decide (A i 2 = 5 ∨ A i 2 = 3)) A n))), none], [], m_thr 0 v) Q) : mRun kX_tick (0, [some (zR 0 0), none, none], [], v) Q := by
  refine z_C.go 4 rfl ?_
  refine z_C.if (fun _ => ?_) (fun h => absurd hu h)
  refine z_C.go 5 rfl ?_
  refine z_C.if (fun _ => ?_) (fun h => absurd hu h)
  refine z_C.go 1 rfl ?_
  refine z_C.call rfl rfl (m_chosen (v := m_thr 0 v) (Q := fun w' r => w' = m_thr 0 v ∧ r = some (zI (idxJ (chF (fun i => decide (A i 2 = 5 ∨ A i 2 = 3)) A n)))) hr ⟨rfl, rfl⟩) (fun w' r h => ?_)
  obtain ⟨rfl, rfl⟩ := h
  refine z_C.go 1 rfl ?_
  exact K
theorem m_tickN (hu : v.1 0 0 1 = 0) (hr : mRowsN n A v) (hc : chF (fun i => decide (A i 2 = 5 ∨ A i 2 = 3)) A n = none) (K : Q (m_thr 0 v) (some (zI 0))) : mRun kX_tick (0, [some (zR 0 0), none, none], [], v) Q := by
  refine m_tick0 hu hr ?_
  rw [hc]
  refine z_C.go 2 rfl ?_
  refine z_C.if (fun h => absurd h (by decide)) (fun _ => ?_)
  refine z_C.go 1 rfl ?_
  exact z_C.ret rfl rfl K
theorem m_tickP (hu : v.1 0 0 1 = 0) (hr : mRowsN n A v) (hc : chF (fun i => decide (A i 2 = 5 ∨ A i 2 = 3)) A n = some k) (h5 : A k 2 = 5) (K : mRun kX_tick (93, [some (zR 0 0), some (zI (iN k)), some (zI (iN (A k 1)))], [], m_thr 0 v) Q) : mRun kX_tick (0, [some (zR 0 0), none, none], [], v) Q := by
  have hk := (chF_lt n k hc).1
  have hn := hr.1.1
  obtain ⟨⟨a1, a2, -⟩, as⟩ := hr.2 k hk
  have e0 : 10 * iN k = iN (10 * k) := iN_mul 10 k
  have i0 : z_in (10 * iN k) 260 = true := by rw [e0]; exact iN_in (by omega) (by omega)
  have v0 : (m_thr 0 v).1 2 0 (10 * iN k).toNatClampNeg = iN (A k 1) := by rw [e0, iN_nat (by omega)]; exact a1
  obtain ⟨-, i1, n1⟩ := j_ix (k := k) (f := 1) (by omega) (by decide)
  have v1 : (m_thr 0 v).1 2 0 (10 * iN k + iN 1).toNatClampNeg = iN 5 := by rw [n1, ← h5]; exact a2
  refine m_tick0 hu hr ?_
  rw [hc]
  refine z_C.go 2 rfl ?_
  refine z_C.if (fun _ => ?_) (fun h => absurd (Int32.not_lt.mp (idx_ng (show k < 2147483648 by omega))) h)
  refine z_C.go 5 rfl ?_
  refine z_C.ld rfl (if_pos ⟨rfl, i0⟩) v0 ?_
  refine z_C.go 8 rfl ?_
  refine z_C.ld rfl (if_pos ⟨rfl, i1⟩) v1 ?_
  refine z_C.go 2 rfl ?_
  refine z_C.if (fun h => absurd h (by decide)) (fun _ => ?_)
  exact K
theorem m_tickQ (hu : v.1 0 0 1 = 0) (hr : mRowsN n A v) (hc : chF (fun i => decide (A i 2 = 5 ∨ A i 2 = 3)) A n = some k) (h3 : A k 2 = 3) (hlg : lg ≤ 40) (h1 : v.1 0 0 9 = iN lg) (hcl : mLv n A v) (hlv : nLive A n ≤ 90) (hs : stM st v) (hl24 : l ≤ 24)
    (hfd : ∀ v1, mT (aT 1 lg (nLive A n) st) n A (m_thr 0 v) v1 → v1.1 0 0 4 = iN (tN (aT 1 lg (nLive A n) st) n A) ∧ fndF (fun j => v1.1 2 0 (10 * j)) (iN (A k 1)) (tN (aT 1 lg (nLive A n) st) n A) 0 = some l)
    (K1 : (aT 1 lg (nLive A n) st).1 = true → ∀ v1, mT (aT 1 lg (nLive A n) st) n A (m_thr 0 v) v1 → mRun kX_tick (93, [some (zR 0 0), some (zI (iN l)), some (zI (iN (A k 1)))], [], z_si (z_si v1 2 0 (10 * l + 1) 5) 2 0 (10 * l + 8) 0) Q) (K2 : ¬ (aT 1 lg (nLive A n) st).1 = true → ∀ v1, mT (aT 1 lg (nLive A n) st) n A (m_thr 0 v) v1 → Q (gdn (tN (aT 1 lg (nLive A n) st) n A) v1) (some (zI (-1)))) :
    mRun kX_tick (0, [some (zR 0 0), none, none], [], v) Q := by
  have hk := (chF_lt n k hc).1
  have hn := hr.1.1
  obtain ⟨⟨a1, a2, -⟩, as⟩ := hr.2 k hk
  have e0 : 10 * iN k = iN (10 * k) := iN_mul 10 k
  have i0 : z_in (10 * iN k) 260 = true := by rw [e0]; exact iN_in (by omega) (by omega)
  have v0 : (m_thr 0 v).1 2 0 (10 * iN k).toNatClampNeg = iN (A k 1) := by rw [e0, iN_nat (by omega)]; exact a1
  obtain ⟨-, i1, n1⟩ := j_ix (k := k) (f := 1) (by omega) (by decide)
  have v1 : (m_thr 0 v).1 2 0 (10 * iN k + iN 1).toNatClampNeg = iN 3 := by rw [n1, ← h3]; exact a2
  have hle := tN_le (aT 1 lg (nLive A n) st) n A
  refine m_tick0 hu hr ?_
  rw [hc]
  refine z_C.go 2 rfl ?_
  refine z_C.if (fun _ => ?_) (fun h => absurd (Int32.not_lt.mp (idx_ng (show k < 2147483648 by omega))) h)
  refine z_C.go 5 rfl ?_
  refine z_C.ld rfl (if_pos ⟨rfl, i0⟩) v0 ?_
  refine z_C.go 8 rfl ?_
  refine z_C.ld rfl (if_pos ⟨rfl, i1⟩) v1 ?_
  refine z_C.go 2 rfl ?_
  refine z_C.if (fun _ => ?_) (fun h => absurd (by decide) h)
  refine z_C.go 3 rfl ?_
  by_cases hT : (aT 1 lg (nLive A n) st).1 = true
  · refine z_C.call rfl rfl (m_change (k := l) (x := iN (A k 1)) (y := 5) (Q := fun v4 r' => r' = some (zI 1) ∧ ∃ v3, v4 = z_si v3 2 0 (10 * l + 1) 5 ∧ mT (aT 1 lg (nLive A n) st) n A (m_thr 0 v) v3) hlg h1 hcl hlv (stM_cg hs rfl rfl) hl24 hfd (fun v3 h9 _ => ⟨rfl, v3, rfl, h9⟩) (fun v3 _ h9 => absurd hT h9)) (fun v4 r' h => ?_)
    obtain ⟨rfl, v3, rfl, h9⟩ := h
    obtain ⟨f1, f2⟩ := hfd v3 h9
    have f3 : fndF (fun j => (z_si v3 2 0 (10 * l + 1) 5).1 2 0 (10 * j)) (iN (A k 1)) (tN (aT 1 lg (nLive A n) st) n A) 0 = some l := by
      rw [← f2]
      exact fndF_congr _ _ (fun j _ _ => if_neg (fun h => by omega))
    obtain ⟨-, i8, n8⟩ := j_ix (k := l) (f := 8) (by omega) (by decide)
    refine z_C.go 1 rfl ?_
    refine z_C.if (fun h => absurd h (by decide)) (fun _ => ?_)
    refine z_C.go 2 rfl ?_
    refine z_C.call rfl rfl (m_find (v := z_si v3 2 0 (10 * l + 1) 5) (Q := fun w' r => w' = z_si v3 2 0 (10 * l + 1) 5 ∧ r = some (zI (iN l))) f1 (by omega) ⟨rfl, by rw [f3]; rfl⟩) (fun w' r h => ?_)
    obtain ⟨rfl, rfl⟩ := h
    refine z_C.go 9 rfl ?_
    refine z_C.go1 rfl (if_pos ⟨rfl, i8⟩) ?_
    have k9 := K1 hT v3 h9
    rw [← n8] at k9
    exact k9
  · refine z_C.call rfl rfl (m_change (k := l) (x := iN (A k 1)) (y := 5) (Q := fun v4 r' => r' = some (zI 0) ∧ ∃ v3, v4 = gdn (tN (aT 1 lg (nLive A n) st) n A) v3 ∧ mT (aT 1 lg (nLive A n) st) n A (m_thr 0 v) v3) hlg h1 hcl hlv (stM_cg hs rfl rfl) hl24 hfd (fun v3 _ h9 => absurd h9 hT) (fun v3 h9 _ => ⟨rfl, v3, rfl, h9⟩)) (fun v4 r' h => ?_)
    obtain ⟨rfl, v3, rfl, h9⟩ := h
    refine z_C.go 1 rfl ?_
    refine z_C.if (fun _ => ?_) (fun h => absurd (by decide) h)
    refine z_C.go 1 rfl ?_
    exact z_C.ret rfl rfl (K2 hT v3 h9)
end MT
theorem pT.of {kc km : Nat} {as : List z_V} {j : Nat} {w v : z_W} {Pc Pm : z_W → Option z_V → Prop} (h1 : cRun kc (0, z_entry (zM kc).2.2.1 (zR 0 0 :: as), [], w) Pc) (h2 : mRun km (0, z_entry (zM km).2.2.1 (zR 0 0 :: as), [], v) Pm) (h : ∀ w' r v' r', Pc w' r → Pm v' r' → FinT j w' r v' r') : pT kc km as (Rel j) w v := by
  obtain ⟨n1, w', r, g1, p1⟩ := h1
  obtain ⟨n2, v', r', g2, p2⟩ := h2
  obtain ⟨i, rfl, rfl, h0, hR⟩ := h w' r v' r' p1 p2
  exact ⟨n2, w', v', i, g2, Or.inl ⟨n1, w', rfl, g1, h0⟩, hR⟩
theorem run_det {S : z_S} {M : Nat → z_M} {C : Nat → Nat → Option z_I} {n n' mi : Nat} {f : z_F} {x y : z_W × Option z_V} (h1 : z_run S M C n mi f = some x) (h2 : z_run S M C n' mi f = some y) : x = y := by
  have a := z_mono (Nat.le_max_left n n') h1
  have b := z_mono (Nat.le_max_right n n') h2
  rw [a] at b
  exact Option.some.inj b
theorem t_tick {j : Nat} {w v : z_W} (hj : 4 * j + 4 ≤ 2048) (h : Rel j w v) : pT kP_tick kX_tick [] (Rel (j + 1)) w v := by
  have hRel := h
  obtain ⟨len, lg, up, n, nx, A, h1, h2, h3, h4, h5, h6, h7, h8, h9, h10⟩ := h
  have hu : up = 0 ∨ up = 1 := by have := h2.2.2.1.1; omega
  rcases hu with rfl | rfl
  · obtain ⟨n', v', r', g3, rfl, rfl⟩ := mRun.to (k := kX_tick) (as := []) (w := v) (P := fun v' r => v' = m_thr 1 v ∧ r = 0) (m_tickD h2.2.2.1.2.2 ⟨0, rfl, rfl, rfl⟩)
    exact ⟨n', w, m_thr 1 v, 0, g3, Or.inr ⟨rfl, h2.2.2.1.2.1, rfl⟩, Rel.idle hj hRel.thr⟩
  · have hC : Core len lg n nx A w v := ⟨h1, h2, h3, h4, h5, h6⟩
    have hC0 : Core len lg n nx A w (m_thr 0 v) := hC
    have hw := h7.w
    have cu : w.1 11 0 2 = 1 := h2.2.2.1.2.1
    have mu : v.1 0 0 1 = 0 := h2.2.2.1.2.2
    have cr := hC.cRows hw (by omega)
    have mr := hC.mRowsN hw (by omega)
    have ef : fndF (fun j => cJ w j 2) 5 n 0 = fndF (fun j => iN (A j 2)) 5 n 0 := fndF_congr n 0 (fun q _ hq => (cr.2 q (by omega)).1.2.1)
    have i5 : ∀ q, q < n → (iN (A q 2) = 5 ↔ A q 2 = 5) := fun q hq => iN_inj (b := 5) (cr.2 q hq).2.2.1 (by decide)
    cases hf : fndF (fun j => iN (A j 2)) 5 n 0 with
    | some k =>
      obtain ⟨-, k1, k2⟩ := fndF_some n 0 k hf
      have hk : k < n := by omega
      have k5 : A k 2 = 5 := (i5 k hk).mp k2
      have hc := ch_proc hk k5 (fun l hl hl5 => h7.2.2.1 l k hl hk hl5 k5) n (Nat.le_refl _) hk
      obtain ⟨Pc, Pm, q1, q2, q3⟩ := tickB (j := j + 1) hC0 h7 hk k5 h8 (by omega) (by omega) rfl
      exact pT.of (c_tickP cu cr.1.2 cr.1.1 (by rw [ef]; exact hf) q1) (m_tickP mu mr hc k5 q2) q3
    | none =>
      have hno : ∀ l, l < n → ¬ A l 2 = 5 := fun l hl h => fndF_none n 0 hf l (Nat.zero_le _) (by omega) ((i5 l hl).mpr h)
      have hcc := ch_pend hno
      cases hc : chF (fun i => decide (A i 2 = 3)) A n with
      | none =>
        rw [hc] at hcc
        exact pT.of (Pc := fun w' r => w' = w ∧ r = some (zI 0)) (Pm := fun v' r => v' = m_thr 0 v ∧ r = some (zI 0)) (c_tickN cu cr (by rw [ef]; exact hf) hc ⟨rfl, rfl⟩) (m_tickN mu mr hcc ⟨rfl, rfl⟩) (fun w' r v' r' g1 g2 => by
          obtain ⟨rfl, rfl⟩ := g1
          obtain ⟨rfl, rfl⟩ := g2
          exact ⟨0, rfl, rfl, rfl, Rel.idle hj hRel.thr⟩)
      | some k =>
        rw [hc] at hcc
        obtain ⟨hk, hk3⟩ := chF_lt n k hc
        have hk3 : A k 2 = 3 := of_decide_eq_true hk3
        obtain ⟨st, s1, s2⟩ := h2.st
        have hlg := h2.2.1.1
        have hlv := hw.2.2.2.2.2
        obtain ⟨l, hl⟩ := tIx_ex (aT 1 lg (nLive A n) st) (A := A) hk (by rw [hk3]; decide)
        have hl24 : l ≤ 24 := by
          have a1 := hl.1
          have a2 := tN_le (aT 1 lg (nLive A n) st) n A
          have a3 := cr.1.1
          omega
        have hfd := fun v1 (b : mT (aT 1 lg (nLive A n) st) n A (m_thr 0 v) v1) => T_find (v := m_thr 0 v) mr.1.2 (fun q hq => (mr.2 q hq).1.1) hw.2.1 (fun q hq => (mr.2 q hq).2.1) hl b
        have hT1 := aT_log (nb := 1) (st := st) hw.2.2.2.2.1 hlg (by omega)
        have hW1 := hw.T (nb := 1) (st := st) hlg (by omega)
        by_cases hT : (aT 1 lg (nLive A n) st).1 = true
        · -- the state changes; from there on as with a job that was being printed
          have key : ∀ w1 v1, cT (aT 1 lg (nLive A n) st) n A w w1 → mT (aT 1 lg (nLive A n) st) n A (m_thr 0 v) v1 → ∃ Pc Pm : z_W → Option z_V → Prop, cRun kP_tick (47, [some (zR 0 0), some (zR 9 (w.2.2 13 0 k))], [], z_si w1 9 (w.2.2 13 0 k) 2 5) Pc ∧ mRun kX_tick (93, [some (zR 0 0), some (zI (iN l)), some (zI (iN (A k 1)))], [], z_si (z_si v1 2 0 (10 * l + 1) 5) 2 0 (10 * l + 8) 0) Pm ∧ ∀ w' r v' r', Pc w' r → Pm v' r' → FinT (j + 1) w' r v' r' := by
            intro w1 v1 c1 m1
            have c2 := (hC0.T (fun q hq => (hw.1 q hq).2.2.2.2.2.2.2.2.2) c1 m1 hT hT1.1).state (k := l) (s := 5) hl.1
            have er : w1.2.2 13 0 l = w.2.2 13 0 k := hl.ref c1
            rw [er] at c2
            have hs0 : aSet (tA (aT 1 lg (nLive A n) st) n A) l 2 5 l 9 = 0 := by
              rw [aSet_f (by decide), hl.f 9]
              exact (hw.2.2.2.1 k hk).2 (Or.inl hk3)
            have c3 := c2.sent0 hl.1 hs0
            have hno1 : ∀ q, q < tN (aT 1 lg (nLive A n) st) n A → ¬ tA (aT 1 lg (nLive A n) st) n A q 2 = 5 := tA_all (P := fun a => ¬ a 2 = 5) hno
            have hW2 := hW1.set2 (k := l) (s := 5) nSt_5 (by rw [hl.f 2, hk3]; decide) (fun _ q hq h9 => absurd h9 (hno1 q hq)) (fun h9 => by omega)
            have hV2 := hW2.v (up := 1) (fun q hq hq5 _ => by
              by_cases e : q = l
              · rw [e, hs0]
                exact (hW2.1 l hl.1).tot.1
              · rw [aSet_k e] at hq5
                exact absurd hq5 (hno1 q hq))
            obtain ⟨Pc, Pm, q1, q2, q3⟩ := tickB (j := j + 1) c3 hV2 hl.1 aSet_s h8 (by omega) (by omega) (by
              show v1.1 0 0 0 = 0
              exact m1.fr 0 0 0 (by decide) (by decide) (by decide))
            have e1 : aSet (tA (aT 1 lg (nLive A n) st) n A) l 2 5 l 1 = A k 1 := by rw [aSet_f (by decide), hl.f 1]
            have er2 : (z_si w1 9 (w.2.2 13 0 k) 2 (iN 5)).2.2 13 0 l = w.2.2 13 0 k := er
            rw [e1] at q2
            rw [er2] at q1
            exact ⟨Pc, Pm, q1, q2, q3⟩
          have exW : ∃ w1, cT (aT 1 lg (nLive A n) st) n A w w1 := by
            obtain ⟨-, w9, -, -, c⟩ := e_logged (nb := 1) (Q := fun w' _ => cT (aT 1 lg (nLive A n) st) n A w w') (by decide) hlg h2.2.1.2.1 (hC.cLv hw) (by omega) h6.2.2.1.1 h6.2.2.1.2 s1 (fun w' c => c)
            exact ⟨w9, c⟩
          have exV : ∃ v1, mT (aT 1 lg (nLive A n) st) n A (m_thr 0 v) v1 := by
            obtain ⟨-, v9, -, -, c⟩ := m_transact (nb := 1) (v := m_thr 0 v) (Q := fun v' _ => mT (aT 1 lg (nLive A n) st) n A (m_thr 0 v) v') (by decide) hlg h2.2.1.2.2 (hC0.mLv hw) (by omega) (stM_cg s2 rfl rfl) (fun v1 _ c => c) (fun v1 h _ => absurd hT h)
            exact ⟨v9, c⟩
          refine pT.of (Pc := fun w' r => ∃ w1, cT (aT 1 lg (nLive A n) st) n A w w1 ∧ ∃ n9, z_run sC zM zC n9 kP_tick (47, [some (zR 0 0), some (zR 9 (w.2.2 13 0 k))], [], z_si w1 9 (w.2.2 13 0 k) 2 5) = some (w', r)) (Pm := fun v' r => ∃ v1, mT (aT 1 lg (nLive A n) st) n A (m_thr 0 v) v1 ∧ ∃ n9, z_run sR zM zC n9 kX_tick (93, [some (zR 0 0), some (zI (iN l)), some (zI (iN (A k 1)))], [], z_si (z_si v1 2 0 (10 * l + 1) 5) 2 0 (10 * l + 8) 0) = some (v', r)) ?_ ?_ (fun w' r v' r' g1 g2 => ?_)
          · refine c_tickQ (k := k) cu cr (by rw [ef]; exact hf) hc hlg h2.2.1.2.1 (hC.cLv hw) (by omega) h6.2.2.1.1 h6.2.2.1.2 s1 (fun _ w1 c => ?_) (fun h => absurd hT h)
            obtain ⟨v1, m1⟩ := exV
            obtain ⟨Pc, Pm, ⟨n9, w9, r9, q1, -⟩, -, -⟩ := key w1 v1 c m1
            exact ⟨n9, w9, r9, q1, w1, c, n9, q1⟩
          · refine m_tickQ (k := k) (l := l) mu mr hcc hk3 hlg h2.2.1.2.2 (hC.mLv hw) (by omega) s2 hl24 hfd (fun _ v1 m => ?_) (fun h => absurd hT h)
            obtain ⟨w1, c1⟩ := exW
            obtain ⟨Pc, Pm, -, ⟨n9, w9, r9, q1, -⟩, -⟩ := key w1 v1 c1 m
            exact ⟨n9, w9, r9, q1, v1, m, n9, q1⟩
          · obtain ⟨w1, c1, n1, e1⟩ := g1
            obtain ⟨v1, m1, n2, e2⟩ := g2
            obtain ⟨Pc, Pm, ⟨n3, w3, r3, q1, p1⟩, ⟨n4, v4, r4, q2, p2⟩, q3⟩ := key w1 v1 c1 m1
            have d1 := run_det e1 q1
            have d2 := run_det e2 q2
            cases d1
            cases d2
            exact q3 _ _ _ _ p1 p2
        · refine pT.of (Pc := fun w' r => r = some (zI (-1)) ∧ ∃ w1, w' = bClr 1 w1 ∧ cT (aT 1 lg (nLive A n) st) n A w w1) (Pm := fun v' r => r = some (zI (-1)) ∧ ∃ v1, v' = gdn (tN (aT 1 lg (nLive A n) st) n A) v1 ∧ mT (aT 1 lg (nLive A n) st) n A (m_thr 0 v) v1)
            (c_tickQ (k := k) cu cr (by rw [ef]; exact hf) hc hlg h2.2.1.2.1 (hC.cLv hw) (by omega) h6.2.2.1.1 h6.2.2.1.2 s1 (fun h => absurd h hT) (fun _ w1 c => ⟨rfl, w1, rfl, c⟩)) (m_tickQ (k := k) (l := l) mu mr hcc hk3 hlg h2.2.1.2.2 (hC.mLv hw) (by omega) s2 hl24 hfd (fun h => absurd h hT) (fun _ v1 c => ⟨rfl, v1, rfl, c⟩)) (fun w' r v' r' g1 g2 => ?_)
          obtain ⟨rfl, w1, rfl, c1⟩ := g1
          obtain ⟨rfl, v1, rfl, m1⟩ := g2
          refine ⟨_, rfl, rfl, ?_, hC0.D hw hlg (by omega) c1 m1 hT h8 (by omega) (by omega)⟩
          rw [gdn_0]
          exact m1.fr 0 0 0 (by decide) (by decide) (by decide)
