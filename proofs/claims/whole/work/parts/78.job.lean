/-! job and pixel keep the relation -/
theorem rJobs.find {n nx up : Nat} {A : Nat → Nat → Nat} {w v : z_W} (h : rJobs n nx up A w v) (x : Int32) : fndF (fun j => cJ w j 1) x n 0 = fndF (fun j => iN (A j 1)) x n 0 ∧ fndF (fun j => v.1 2 0 (10 * j)) x n 0 = fndF (fun j => iN (A j 1)) x n 0 := by
  obtain ⟨-, -, -, h4, -⟩ := h
  exact ⟨fndF_congr n 0 (fun j _ hj => (h4 j (by omega) 1 (by decide) (by decide)).1), fndF_congr n 0 (fun j _ hj => (h4 j (by omega) 1 (by decide) (by decide)).2)⟩
def mFact (v : z_W) (k m : Nat) : Int32 := if m = 8 then mCopy (v.1 2 0 (10 * k + 4)) (v.1 2 0 (10 * k + 5)) (v.1 2 0 (10 * k + 6)) (v.1 2 0 (10 * k + 7)) * v.1 2 0 (10 * k + 2) else v.1 2 0 (10 * k + 1 + m)
theorem iN_nneg {n : Nat} (h : n < 2147483648) : ¬ iN n < 0 := fun h9 => absurd ((iN_lt (b := 0) h (by decide)).mp h9) (Nat.not_lt_zero _)
theorem m_job6 {k m : Nat} {x : Int32} {v : z_W} {Q : z_W → Option z_V → Prop} (hk : k ≤ 24) (hm : m ≤ 8) (hd : v.1 0 0 1 = 0) (hu : ¬ v.1 2 0 (10 * k + 4) = 0) (hq : Q (m_thr 0 v) (some (zI (mFact v k m)))) :
    mRun kX_job (6, [some (zR 0 0), some (zI x), some (zI (iN m)), some (zI (iN k))], [], v) Q := by
  unfold mFact at hq
  refine z_C.go 4 rfl ?_
  refine z_C.if (fun h => ?_) (fun h => absurd hd h)
  refine z_C.go 2 rfl ?_
  refine z_C.if (fun h => absurd h (iN_nneg (by omega))) (fun h => ?_)
  refine z_C.go 2 rfl ?_
  refine z_C.if (fun h => absurd h (iN_nneg (by omega))) (fun h => ?_)
  refine z_C.go 3 rfl ?_
  refine z_C.if (fun h => ?_) (fun h => absurd ((iN_le (b := 8) (by omega) (by decide)).mpr hm) h)
  refine z_C.go 8 rfl ?_
  refine z_C.if (fun h => ?_) (fun h => ?_)
  · have h : iN m = 8 := h
    have h8 : m = 8 := (iN_inj (b := 8) (by omega) (by decide)).mp h
    rw [if_pos h8] at hq
    obtain ⟨-, i2, n2⟩ := j_ix (k := k) (f := 2) (by omega) (by omega)
    refine z_C.go 2 rfl ?_
    refine z_C.call rfl rfl (m_sheetsOf (k := k) (v := m_thr 0 v) (Q := fun w' r => w' = m_thr 0 v ∧ r = some (zI (mCopy (v.1 2 0 (10 * k + 4)) (v.1 2 0 (10 * k + 5)) (v.1 2 0 (10 * k + 6)) (v.1 2 0 (10 * k + 7))))) (by omega) hu ⟨rfl, rfl⟩) (fun w' r h => ?_)
    obtain ⟨rfl, rfl⟩ := h
    refine z_C.go 7 rfl ?_
    refine z_C.go1 rfl (if_pos ⟨rfl, i2⟩) ?_
    refine z_C.go 2 rfl ?_
    rw [← n2] at hq
    exact z_C.ret rfl rfl hq
  · have h : ¬ iN m = 8 := h
    have h8 : ¬ m = 8 := fun e => h (by rw [e]; rfl)
    rw [if_neg h8] at hq
    refine z_C.go 3 rfl ?_
    refine z_C.if (fun h => ?_) (fun h => ?_)
    · have h : iN m = 7 := h
      have h7 : m = 7 := (iN_inj (b := 7) (by omega) (by decide)).mp h
      obtain ⟨-, i8, n8⟩ := j_ix (k := k) (f := 8) (by omega) (by omega)
      refine z_C.go 7 rfl ?_
      refine z_C.go1 rfl (if_pos ⟨rfl, i8⟩) ?_
      refine z_C.go 1 rfl ?_
      rw [h7, show 10 * k + 1 + 7 = 10 * k + 8 by omega, ← n8] at hq
      exact z_C.ret rfl rfl hq
    · have e : 10 * iN k + 1 + iN m = iN (10 * k + 1 + m) := by
        rw [← iN_add, ← iN_add, ← iN_mul]
        rfl
      have hin : z_in (10 * iN k + 1 + iN m) 260 = true := by rw [e]; exact iN_in (by omega) (by omega)
      have hnat : (10 * iN k + 1 + iN m).toNatClampNeg = 10 * k + 1 + m := by rw [e]; exact iN_nat (by omega)
      refine z_C.go 9 rfl ?_
      refine z_C.go1 rfl (if_pos ⟨rfl, hin⟩) ?_
      rw [← hnat] at hq
      exact z_C.ret rfl rfl hq
theorem fact_eq {n nx lg up : Nat} {A : Nat → Nat → Nat} {w v : z_W} (h : rJobs n nx up A w v) (hv : vJobs n nx lg up A) (hup : up = 1) {k m : Nat} (hk : k < n) (hm : m ≤ 8) : iFact (w.1 9 (w.2.2 13 0 k)) (iN m) = mFact v k m := by
  obtain ⟨-, -, -, h4, h5, -⟩ := h
  have ha := hv.1 k hk
  have f := h4 k hk
  have f2 := f 2 (by decide) (by decide)
  have f3 := f 3 (by decide) (by decide)
  have f4 := f 4 (by decide) (by decide)
  have f5 := f 5 (by decide) (by decide)
  have f6 := f 6 (by decide) (by decide)
  have f7 := f 7 (by decide) (by decide)
  have f8 := f 8 (by decide) (by decide)
  have f9 := h5 k hk
  rw [if_pos (Or.inl hup)] at f9
  obtain ⟨c1, c2, -⟩ := ha.copy
  match m, hm with
  | 0, _ => exact f2.1.trans f2.2.symm
  | 1, _ => exact f3.1.trans f3.2.symm
  | 2, _ => exact f4.1.trans f4.2.symm
  | 3, _ => exact f5.1.trans f5.2.symm
  | 4, _ => exact f6.1.trans f6.2.symm
  | 5, _ => exact f7.1.trans f7.2.symm
  | 6, _ => exact f8.1.trans f8.2.symm
  | 7, _ => exact f9.1.trans f9.2.symm
  | 8, _ =>
    show w.1 9 (w.2.2 13 0 k) 3 * iCopy (w.1 9 (w.2.2 13 0 k) 5) (w.1 9 (w.2.2 13 0 k) 6) (w.1 9 (w.2.2 13 0 k) 7) (w.1 9 (w.2.2 13 0 k) 8) = mCopy (v.1 2 0 (10 * k + 4)) (v.1 2 0 (10 * k + 5)) (v.1 2 0 (10 * k + 6)) (v.1 2 0 (10 * k + 7)) * v.1 2 0 (10 * k + 2)
    have g3 : v.1 2 0 (10 * k + 2) = iN (A k 3) := f3.2
    have g5 : v.1 2 0 (10 * k + 4) = iN (A k 5) := f5.2
    have g6 : v.1 2 0 (10 * k + 5) = iN (A k 6) := f6.2
    have g7 : v.1 2 0 (10 * k + 6) = iN (A k 7) := f7.2
    have g8 : v.1 2 0 (10 * k + 7) = iN (A k 8) := f8.2
    rw [f3.1, f5.1, f6.1, f7.1, f8.1, g3, g5, g6, g7, g8, c1, c2]
    exact Int32.mul_comm _ _
  | m + 9, hm => omega
theorem t_job {j : Nat} {w v : z_W} (hj : 4 * j + 4 ≤ 2048) (h : Rel j w v) (x q : Int32) : pU kP_job kX_job 27 [zI x, zI q] (Rel (j + 1)) w v := by
  have h' := h
  obtain ⟨len, lg, up, n, nx, A, -, ⟨-, -, ⟨c4, c5, c6⟩, -⟩, -, -, -, hJ, hV, -⟩ := h'
  have hJ' := hJ
  obtain ⟨⟨j1, j2, j3⟩, -, -, j7, -⟩ := hJ'
  obtain ⟨e1, e2⟩ := hJ.find x
  have hu : up = 0 ∨ up = 1 := by omega
  rcases hu with rfl | rfl
  · obtain ⟨n', v', r', g3, rfl, rfl⟩ := mRun.to (k := kX_job) (as := [zI x, zI q]) (w := v) (P := fun v' r => r = 0 ∧ v' = m_thr 1 v) (by
      refine z_C.go 2 rfl ?_
      refine z_C.call rfl rfl (m_find (n := n) (Q := fun w' r => w' = v ∧ r = some (zI (idxJ (fndF (fun j => v.1 2 0 (10 * j)) x n 0)))) j3 (by omega) ⟨rfl, rfl⟩) (fun w' r h => ?_)
      obtain ⟨rfl, rfl⟩ := h
      have hn : ¬ w'.1 0 0 1 = 0 := by rw [c6]; decide
      refine z_C.go 5 rfl ?_
      refine z_C.if (fun h => absurd h hn) (fun _ => ?_)
      refine z_C.go 7 rfl ?_
      exact z_C.ret rfl rfl ⟨0, rfl, rfl, rfl⟩)
    exact ⟨n', w, m_thr 1 v, 0, g3, Or.inr (Or.inl ⟨rfl, c5, rfl⟩), Rel.idle hj h.thr⟩
  · have hup : w.1 11 0 2 = 1 := c5
    have hdn : v.1 0 0 1 = 0 := c6
    cases ho : fndF (fun j => iN (A j 1)) x n 0 with
    | none =>
      rw [ho] at e1 e2
      obtain ⟨n', v', r', g3, rfl, rfl⟩ := mRun.to (k := kX_job) (as := [zI x, zI q]) (w := v) (P := fun v' r => r = 0 ∧ v' = m_thr 2 v) (by
        refine z_C.go 2 rfl ?_
        refine z_C.call rfl rfl (m_find (n := n) (Q := fun w' r => w' = v ∧ r = some (zI (-1))) j3 (by omega) ⟨rfl, by rw [e2]; rfl⟩) (fun w' r h => ?_)
        obtain ⟨rfl, rfl⟩ := h
        refine z_C.go 5 rfl ?_
        refine z_C.if (fun _ => ?_) (fun h => absurd hdn h)
        refine z_C.go 9 rfl ?_
        exact z_C.ret rfl rfl ⟨0, rfl, rfl, rfl⟩)
      refine ⟨n', w, m_thr 2 v, 0, g3, Or.inr (Or.inr ⟨rfl, rfl, [some (zR 0 0), some (zI x), some (zI q), some (.inr (.inr none))], ?_⟩), Rel.idle hj h.thr⟩
      refine z_K.go 1 rfl ?_
      refine z_K.call rfl rfl (k_refuse hup ?_)
      refine z_K.go 3 rfl ?_
      refine z_K.call rfl rfl (k_find j2 j1 ?_)
      rw [e1]
      refine z_K.go 3 rfl ?_
      exact z_K.nil rfl
    | some k =>
      rw [ho] at e1 e2
      have hk := (fndF_some n 0 k ho).2.1
      have hu4 : ¬ v.1 2 0 (10 * k + 4) = 0 := by
        have g5 : v.1 2 0 (10 * k + 4) = iN (A k 5) := (j7 k (by omega) 5 (by decide) (by decide)).2
        have ha := (hV.1 k (by omega)).2.2.2.2.1
        rw [g5]
        exact fun h => absurd ((iN_inj (b := 0) (by omega) (by decide)).mp h) (by omega)
      by_cases hq : 0 ≤ q ∧ q ≤ 8
      · obtain ⟨q1, q2⟩ := iN_of hq.1
        generalize q.toInt.toNat = m at q1 q2
        subst q1
        have hm : m ≤ 8 := (iN_le (b := 8) q2 (by decide)).mp hq.2
        obtain ⟨n', v', r', g3, rfl, rfl⟩ := mRun.to (k := kX_job) (as := [zI x, zI (iN m)]) (w := v) (P := fun v' r => r = mFact v k m ∧ v' = m_thr 0 v) (by
          refine z_C.go 2 rfl ?_
          refine z_C.call rfl rfl (m_find (n := n) (Q := fun w' r => w' = v ∧ r = some (zI (iN k))) j3 (by omega) ⟨rfl, by rw [e2]; rfl⟩) (fun w' r h => ?_)
          obtain ⟨rfl, rfl⟩ := h
          refine z_C.go 1 rfl ?_
          exact m_job6 (by omega) hm hdn hu4 ⟨_, rfl, rfl, rfl⟩)
        obtain ⟨n1, w', r, g1, rfl, rfl⟩ := cRun.to (k := kP_job) (as := [zI x, zI (iN m)]) (w := w) (P := fun w' r => r = iFact (w.1 9 (w.2.2 13 0 k)) (iN m) ∧ w' = w) (by
          refine z_C.go 1 rfl ?_
          refine z_C.call rfl rfl (zC_up (C' := zC) (k_refuse (Q := fun w' r => w' = w ∧ r = none) hup ⟨rfl, rfl⟩)) (fun w' r h => ?_)
          obtain ⟨rfl, rfl⟩ := h
          refine z_C.go 3 rfl ?_
          refine z_C.call rfl rfl (zC_up (C' := zC) (k_find (Q := fun w'' r => w'' = w' ∧ r = some (zR 9 (w'.2.2 13 0 k))) j2 j1 ⟨rfl, by rw [e1]; rfl⟩)) (fun w'' r h => ?_)
          obtain ⟨rfl, rfl⟩ := h
          refine z_C.go 5 rfl ?_
          refine z_C.if (fun h => absurd h (iN_nneg (by omega))) (fun _ => ?_)
          refine z_C.go 3 rfl ?_
          refine z_C.if (fun _ => ?_) (fun h => absurd hq.2 h)
          refine z_C.go 2 rfl ?_
          refine z_C.call rfl rfl (zC_up (C' := zC) (k_fact (j := w''.2.2 13 0 k) (Q := fun w' r => w' = w'' ∧ r = some (zI (iFact (w''.1 9 (w''.2.2 13 0 k)) (iN m)))) hm ⟨rfl, rfl⟩)) (fun w' r h => ?_)
          obtain ⟨rfl, rfl⟩ := h
          exact z_C.ret rfl rfl ⟨_, rfl, rfl, rfl⟩)
        rw [fact_eq hJ hV rfl (by omega) hm] at g1
        exact ⟨n', w', m_thr 0 v, _, g3, Or.inl ⟨n1, w', rfl, g1, rfl⟩, Rel.idle hj h.thr⟩
      · obtain ⟨n', v', r', g3, rfl, rfl⟩ := mRun.to (k := kX_job) (as := [zI x, zI q]) (w := v) (P := fun v' r => r = 0 ∧ v' = m_thr 2 v) (by
          refine z_C.go 2 rfl ?_
          refine z_C.call rfl rfl (m_find (n := n) (Q := fun w' r => w' = v ∧ r = some (zI (iN k))) j3 (by omega) ⟨rfl, by rw [e2]; rfl⟩) (fun w' r h => ?_)
          obtain ⟨rfl, rfl⟩ := h
          refine z_C.go 5 rfl ?_
          refine z_C.if (fun _ => ?_) (fun h => absurd hdn h)
          refine z_C.go 2 rfl ?_
          refine z_C.if (fun h => absurd h (iN_nneg (by omega))) (fun _ => ?_)
          refine z_C.go 2 rfl ?_
          refine z_C.if (fun _ => ?_) (fun h0 => ?_)
          · refine z_C.go 7 rfl ?_
            exact z_C.ret rfl rfl ⟨0, rfl, rfl, rfl⟩
          · refine z_C.go 3 rfl ?_
            refine z_C.if (fun h8 => absurd ⟨Int32.not_lt.mp h0, h8⟩ hq) (fun _ => ?_)
            refine z_C.go 7 rfl ?_
            exact z_C.ret rfl rfl ⟨0, rfl, rfl, rfl⟩)
        refine ⟨n', w, m_thr 2 v, 0, g3, Or.inr (Or.inr ⟨rfl, rfl, [some (zR 0 0), some (zI x), some (zI q), some (zR 9 (w.2.2 13 0 k))], ?_⟩), Rel.idle hj h.thr⟩
        refine z_K.go 1 rfl ?_
        refine z_K.call rfl rfl (k_refuse hup ?_)
        refine z_K.go 3 rfl ?_
        refine z_K.call rfl rfl (k_find j2 j1 ?_)
        rw [e1]
        refine z_K.go 5 rfl ?_
        refine z_K.if (fun _ => z_K.nil rfl) (fun h0 => ?_)
        refine z_K.go 3 rfl ?_
        exact z_K.if (fun h8 => absurd ⟨Int32.not_lt.mp h0, h8⟩ hq) (fun _ => z_K.nil rfl)
