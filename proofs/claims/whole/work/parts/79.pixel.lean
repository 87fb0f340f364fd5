/-! pixel keeps the relation -/
theorem iN_mul_add {a p q : Nat} : iN p * iN a + iN q = iN (p * a + q) := by rw [iN_mul, iN_add]
theorem px_ix {k p q : Nat} (hk : k ≤ 24) (hp : p < 6) (hq : q < 12) : z_in (72 * iN k + 12 * iN p + iN q) 1872 = true ∧ (72 * iN k + 12 * iN p + iN q).toNatClampNeg = 72 * k + (12 * p + q) := by
  have e : 72 * iN k + 12 * iN p + iN q = iN (72 * k + (12 * p + q)) := by
    rw [show 72 * k + (12 * p + q) = 72 * k + 12 * p + q by omega, ← iN_add, ← iN_add, ← iN_mul, ← iN_mul]
    rfl
  constructor
  · rw [e]
    exact iN_in (by omega) (by omega)
  · rw [e]
    exact iN_nat (by omega)
theorem px_ic {p q : Nat} (hp : p < 6) (hq : q < 12) : z_in (iN p * 12 + iN q) 72 = true ∧ (iN p * 12 + iN q).toNatClampNeg = 12 * p + q := by
  have e : iN p * 12 + iN q = iN (12 * p + q) := by
    rw [show 12 * p + q = p * 12 + q by omega, ← iN_add, ← iN_mul]
    rfl
  constructor
  · rw [e]
    exact iN_in (by omega) (by omega)
  · rw [e]
    exact iN_nat (by omega)
def pxOK (pg : Nat) (p q : Int32) : Prop := 0 ≤ p ∧ p < iN pg ∧ 0 ≤ q ∧ q < 12
theorem t_pixel {j : Nat} {w v : z_W} (hj : 4 * j + 4 ≤ 2048) (h : Rel j w v) (x p q : Int32) : pU kP_pixel kX_pixel 38 [zI x, zI p, zI q] (Rel (j + 1)) w v := by
  have h' := h
  obtain ⟨len, lg, up, n, nx, A, -, ⟨-, -, ⟨c4, c5, c6⟩, -⟩, -, -, -, hJ, hV, -⟩ := h'
  have hJ' := hJ
  obtain ⟨⟨j1, j2, j3⟩, -, -, j7, -, j9⟩ := hJ'
  obtain ⟨e1, e2⟩ := hJ.find x
  have hu : up = 0 ∨ up = 1 := by omega
  rcases hu with rfl | rfl
  · obtain ⟨n', v', r', g3, rfl, rfl⟩ := mRun.to (k := kX_pixel) (as := [zI x, zI p, zI q]) (w := v) (P := fun v' r => r = 0 ∧ v' = m_thr 1 v) (by
      refine z_C.go 2 rfl ?_
      refine z_C.call rfl rfl (m_find (n := n) (Q := fun w' r => w' = v ∧ r = some (zI (idxJ (fndF (fun j => v.1 2 0 (10 * j)) x n 0)))) j3 (by omega) ⟨rfl, rfl⟩) (fun w' r h => ?_)
      obtain ⟨rfl, rfl⟩ := h
      have hn : ¬ w'.1 0 0 1 = 0 := by rw [c6]; decide
      refine z_C.go 5 rfl ?_
      refine z_C.if (fun h => absurd h hn) (fun _ => ?_)
      refine z_C.go 8 rfl ?_
      exact z_C.ret rfl rfl ⟨0, rfl, rfl, rfl⟩)
    exact ⟨n', w, m_thr 1 v, 0, g3, Or.inr (Or.inl ⟨rfl, c5, rfl⟩), Rel.idle hj h.thr⟩
  · have hup : w.1 11 0 2 = 1 := c5
    have hdn : v.1 0 0 1 = 0 := c6
    cases ho : fndF (fun j => iN (A j 1)) x n 0 with
    | none =>
      rw [ho] at e1 e2
      obtain ⟨n', v', r', g3, rfl, rfl⟩ := mRun.to (k := kX_pixel) (as := [zI x, zI p, zI q]) (w := v) (P := fun v' r => r = 0 ∧ v' = m_thr 2 v) (by
        refine z_C.go 2 rfl ?_
        refine z_C.call rfl rfl (m_find (n := n) (Q := fun w' r => w' = v ∧ r = some (zI (-1))) j3 (by omega) ⟨rfl, by rw [e2]; rfl⟩) (fun w' r h => ?_)
        obtain ⟨rfl, rfl⟩ := h
        refine z_C.go 5 rfl ?_
        refine z_C.if (fun _ => ?_) (fun h => absurd hdn h)
        refine z_C.go 10 rfl ?_
        exact z_C.ret rfl rfl ⟨0, rfl, rfl, rfl⟩)
      refine ⟨n', w, m_thr 2 v, 0, g3, Or.inr (Or.inr ⟨rfl, rfl, [some (zR 0 0), some (zI x), some (zI p), some (zI q), some (.inr (.inr none))], ?_⟩), Rel.idle hj h.thr⟩
      refine z_K.go 1 rfl ?_
      refine z_K.call rfl rfl (k_refuse hup ?_)
      refine z_K.go 3 rfl ?_
      refine z_K.call rfl rfl (k_find j2 j1 ?_)
      rw [e1]
      refine z_K.go 3 rfl ?_
      exact z_K.nil rfl
    | some k =>
      rw [ho] at e1 e2
      have hk := (fndF_some n 0 k ho).2.1
      have hk : k < n := by omega
      have hpg := (hV.1 k hk).2.2.2.2.2.2.2.2
      have f8 := j7 k hk 8 (by decide) (by decide)
      have g8 : v.1 2 0 (10 * k + 7) = iN (A k 8) := f8.2
      obtain ⟨-, i7, n7⟩ := j_ix (k := k) (f := 7) (by omega) (by omega)
      have m8 : v.1 2 0 (10 * iN k + iN 7).toNatClampNeg = iN (A k 8) := by rw [n7]; exact g8
      by_cases hq : pxOK (A k 8) p q
      · obtain ⟨q1, q2, q3, q4⟩ := hq
        obtain ⟨a1, a2⟩ := iN_of q1
        obtain ⟨b1, b2⟩ := iN_of q3
        generalize p.toInt.toNat = pn at a1 a2
        generalize q.toInt.toNat = qn at b1 b2
        subst a1
        subst b1
        have hp6 : pn < A k 8 := (iN_lt a2 (by omega)).mp q2
        have hq12 : qn < 12 := (iN_lt (b := 12) b2 (by decide)).mp q4
        obtain ⟨ix, nx9⟩ := px_ix (k := k) (p := pn) (q := qn) (by omega) (by omega) hq12
        obtain ⟨ic, nc⟩ := px_ic (p := pn) (q := qn) (by omega) hq12
        obtain ⟨b, hb, w9, v9⟩ := j9 k hk (12 * pn + qn) (by omega)
        obtain ⟨n', v', r', g3, rfl, rfl⟩ := mRun.to (k := kX_pixel) (as := [zI x, zI (iN pn), zI (iN qn)]) (w := v) (P := fun v' r => r = iN b ∧ v' = m_thr 0 v) (by
          refine z_C.go 2 rfl ?_
          refine z_C.call rfl rfl (m_find (n := n) (Q := fun w' r => w' = v ∧ r = some (zI (iN k))) j3 (by omega) ⟨rfl, by rw [e2]; rfl⟩) (fun w' r h => ?_)
          obtain ⟨rfl, rfl⟩ := h
          refine z_C.go 5 rfl ?_
          refine z_C.if (fun _ => ?_) (fun h => absurd hdn h)
          refine z_C.go 2 rfl ?_
          refine z_C.if (fun _ => ?_) (fun h => absurd (Int32.not_lt.mp (iN_nneg (by omega))) h)
          refine z_C.go 2 rfl ?_
          refine z_C.if (fun h => absurd h (iN_nneg (by omega))) (fun _ => ?_)
          refine z_C.go 8 rfl ?_
          refine z_C.go1 rfl (if_pos ⟨rfl, i7⟩) ?_
          refine z_C.go 1 rfl ?_
          refine z_C.if (fun h => ?_) (fun _ => ?_)
          · have h : w'.1 2 0 (10 * iN k + iN 7).toNatClampNeg ≤ iN pn := h
            rw [m8] at h
            exact absurd q2 (Int32.not_lt.mpr h)
          refine z_C.go 2 rfl ?_
          refine z_C.if (fun h => absurd h (iN_nneg (by omega))) (fun _ => ?_)
          refine z_C.go 3 rfl ?_
          refine z_C.if (fun _ => ?_) (fun h => absurd ((iN_le (b := 11) (by omega) (by decide)).mpr (by omega)) h)
          refine z_C.go 16 rfl ?_
          refine z_C.go1 rfl (if_pos ⟨rfl, ix⟩) ?_
          refine z_C.ret rfl rfl ⟨iN b, ?_, rfl, rfl⟩
          show some (zI (w'.1 3 0 (72 * iN k + 12 * iN pn + iN qn).toNatClampNeg)) = _
          rw [nx9, v9])
        obtain ⟨n1, w', r, g1, rfl, rfl⟩ := cRun.to (k := kP_pixel) (as := [zI x, zI (iN pn), zI (iN qn)]) (w := w) (P := fun w' r => r = iN b ∧ w' = w) (by
          refine z_C.go 1 rfl ?_
          refine z_C.call rfl rfl (zC_up (C' := zC) (k_refuse (Q := fun w' r => w' = w ∧ r = none) hup ⟨rfl, rfl⟩)) (fun w' r h => ?_)
          obtain ⟨rfl, rfl⟩ := h
          refine z_C.go 3 rfl ?_
          refine z_C.call rfl rfl (zC_up (C' := zC) (k_find (Q := fun w'' r => w'' = w' ∧ r = some (zR 9 (w'.2.2 13 0 k))) j2 j1 ⟨rfl, by rw [e1]; rfl⟩)) (fun w'' r h => ?_)
          obtain ⟨rfl, rfl⟩ := h
          refine z_C.go 5 rfl ?_
          refine z_C.call rfl rfl (zC_up (C' := zC) (k_hasPage (j := w''.2.2 13 0 k) (Q := fun w' r => w' = w'' ∧ r = some (zI 1)) ⟨rfl, by
            unfold iHas
            rw [f8.1, if_pos ⟨q1, q2, (iN_lt (b := 6) a2 (by decide)).mpr (by omega)⟩]⟩)) (fun w' r h => ?_)
          obtain ⟨rfl, rfl⟩ := h
          refine z_C.go 3 rfl ?_
          refine z_C.if (fun h => absurd h (iN_nneg (by omega))) (fun _ => ?_)
          refine z_C.go 3 rfl ?_
          refine z_C.if (fun _ => ?_) (fun h => absurd q4 h)
          refine z_C.go 7 rfl ?_
          refine z_C.go1 rfl (if_pos ⟨rfl, ic⟩) ?_
          refine z_C.ret rfl rfl ⟨iN b, ?_, rfl, rfl⟩
          show some (zI (w'.1 10 (w'.2.2 13 0 k) (iN pn * 12 + iN qn).toNatClampNeg)) = _
          rw [nc, w9])
        exact ⟨n', w', m_thr 0 v, iN b, g3, Or.inl ⟨n1, w', rfl, g1, rfl⟩, Rel.idle hj h.thr⟩
      · obtain ⟨n', v', r', g3, rfl, rfl⟩ := mRun.to (k := kX_pixel) (as := [zI x, zI p, zI q]) (w := v) (P := fun v' r => r = 0 ∧ v' = m_thr 2 v) (by
          refine z_C.go 2 rfl ?_
          refine z_C.call rfl rfl (m_find (n := n) (Q := fun w' r => w' = v ∧ r = some (zI (iN k))) j3 (by omega) ⟨rfl, by rw [e2]; rfl⟩) (fun w' r h => ?_)
          obtain ⟨rfl, rfl⟩ := h
          refine z_C.go 5 rfl ?_
          refine z_C.if (fun _ => ?_) (fun h => absurd hdn h)
          refine z_C.go 2 rfl ?_
          refine z_C.if (fun _ => ?_) (fun h => absurd (Int32.not_lt.mp (iN_nneg (by omega))) h)
          refine z_C.go 2 rfl ?_
          refine z_C.if (fun _ => ?_) (fun h0 => ?_)
          · refine z_C.go 8 rfl ?_
            exact z_C.ret rfl rfl ⟨0, rfl, rfl, rfl⟩
          refine z_C.go 8 rfl ?_
          refine z_C.go1 rfl (if_pos ⟨rfl, i7⟩) ?_
          refine z_C.go 1 rfl ?_
          refine z_C.if (fun _ => ?_) (fun h1 => ?_)
          · refine z_C.go 8 rfl ?_
            exact z_C.ret rfl rfl ⟨0, rfl, rfl, rfl⟩
          have h1 : ¬ w'.1 2 0 (10 * iN k + iN 7).toNatClampNeg ≤ p := h1
          rw [m8] at h1
          refine z_C.go 2 rfl ?_
          refine z_C.if (fun _ => ?_) (fun h2 => ?_)
          · refine z_C.go 8 rfl ?_
            exact z_C.ret rfl rfl ⟨0, rfl, rfl, rfl⟩
          refine z_C.go 3 rfl ?_
          refine z_C.if (fun h3 => absurd ⟨Int32.not_lt.mp h0, Int32.not_le.mp h1, Int32.not_lt.mp h2, Int32.lt_of_le_of_lt h3 (by decide)⟩ hq) (fun _ => ?_)
          refine z_C.go 8 rfl ?_
          exact z_C.ret rfl rfl ⟨0, rfl, rfl, rfl⟩)
        refine ⟨n', w, m_thr 2 v, 0, g3, Or.inr (Or.inr ⟨rfl, rfl, [some (zR 0 0), some (zI x), some (zI p), some (zI q), some (zR 9 (w.2.2 13 0 k))], ?_⟩), Rel.idle hj h.thr⟩
        refine z_K.go 1 rfl ?_
        refine z_K.call rfl rfl (k_refuse hup ?_)
        refine z_K.go 3 rfl ?_
        refine z_K.call rfl rfl (k_find j2 j1 ?_)
        rw [e1]
        refine z_K.go 5 rfl ?_
        refine z_K.call rfl rfl (k_hasPage (j := w.2.2 13 0 k) ?_)
        unfold iHas
        rw [f8.1]
        by_cases hp : 0 ≤ p ∧ p < iN (A k 8) ∧ p < 6
        · rw [if_pos hp]
          refine z_K.go 3 rfl ?_
          refine z_K.if (fun _ => z_K.nil rfl) (fun h0 => ?_)
          refine z_K.go 3 rfl ?_
          exact z_K.if (fun h1 => absurd ⟨hp.1, hp.2.1, Int32.not_lt.mp h0, h1⟩ hq) (fun _ => z_K.nil rfl)
        · rw [if_neg hp]
          refine z_K.go 1 rfl ?_
          exact z_K.nil rfl
