/-! restart, job, pixel keep the relation -/
theorem e_restart1 {w : z_W} {Q : z_W → Option z_V → Prop} (hu : w.1 11 0 2 = 1) (hq : Q w (some (zI 0))) : cRun kP_restart (0, [some (zR 0 0)], [], w) Q := by
  refine z_C.go 2 rfl ?_
  refine z_C.call rfl rfl (zC_up (C' := zC) (k_isUp (Q := fun w' r => w' = w ∧ r = some (zI (w.1 11 0 2))) (Or.inr hu) ⟨rfl, rfl⟩)) (fun w' r h => ?_)
  obtain ⟨rfl, rfl⟩ := h
  refine z_C.go 1 rfl ?_
  refine z_C.if (fun h => ?_) (fun h => ?_)
  · have h : w'.1 11 0 2 = 0 := h
    rw [hu] at h
    cases h
  · refine z_C.go 1 rfl ?_
    exact z_C.ret rfl rfl hq
theorem e_restart0 {w : z_W} {n : Nat} {Q : z_W → Option z_V → Prop} (hu : w.1 11 0 2 = 0) (hn : w.1 12 0 2 = iN n) (hn2 : n ≤ 20) (hq : Q (z_si (bpa n 0 w) 11 0 2 1) (some (zI 1))) : cRun kP_restart (0, [some (zR 0 0)], [], w) Q := by
  refine z_C.go 2 rfl ?_
  refine z_C.call rfl rfl (zC_up (C' := zC) (k_isUp (Q := fun w' r => w' = w ∧ r = some (zI (w.1 11 0 2))) (Or.inl hu) ⟨rfl, rfl⟩)) (fun w' r h => ?_)
  obtain ⟨rfl, rfl⟩ := h
  refine z_C.go 1 rfl ?_
  refine z_C.if (fun h => ?_) (fun h => absurd hu h)
  refine z_C.go 2 rfl ?_
  refine z_C.call (Q' := fun w'' r => w'' = bpa n 0 w' ∧ r = none) rfl rfl ?_ (fun w'' r h => ?_)
  · refine z_C.go 2 rfl ?_
    exact e_bpa hn2 n 0 w' (by omega) hn ⟨rfl, rfl⟩
  obtain ⟨rfl, rfl⟩ := h
  refine z_C.go 2 rfl ?_
  refine z_C.call (Q' := fun w'' r => w'' = z_si (bpa n 0 w') 11 0 2 1 ∧ r = none) rfl rfl ?_ (fun w'' r h => ?_)
  · refine z_C.go 3 rfl ?_
    exact z_C.ret rfl rfl ⟨rfl, rfl⟩
  obtain ⟨rfl, rfl⟩ := h
  refine z_C.go 1 rfl ?_
  exact z_C.ret rfl rfl hq
theorem m_restart {v : z_W} {Q : z_W → Option z_V → Prop} (hd : v.1 0 0 1 = 0 ∨ v.1 0 0 1 = 1) (hq : Q (z_si (m_thr 0 v) 0 0 1 0) (some (zI (v.1 0 0 1)))) : mRun kX_restart (0, [some (zR 0 0), none], [], v) Q := by
  refine z_C.go 10 rfl ?_
  exact z_C.ret rfl (if_pos (Or.inr hd)) hq
theorem nBlk_congr {A B : Nat → Nat → Nat} : ∀ n, (∀ k, k < n → A k 8 = B k 8) → nBlk A n = nBlk B n := by
  intro n
  induction n with
  | zero => intro _; rfl
  | succ n ih => intro h; unfold nBlk; rw [ih (fun k hk => h k (by omega)), h n (by omega)]
theorem nLive_congr {A B : Nat → Nat → Nat} : ∀ n, (∀ k, k < n → A k 8 = B k 8 ∧ A k 2 = B k 2) → nLive A n = nLive B n := by
  intro n
  induction n with
  | zero => intro _; rfl
  | succ n ih => intro h; unfold nLive; rw [ih (fun k hk => h k (by omega)), (h n (by omega)).1, (h n (by omega)).2]
theorem aJob.copy {a : Nat → Nat} {nx : Nat} (h : aJob a nx) : iCopy (iN (a 5)) (iN (a 6)) (iN (a 7)) (iN (a 8)) = iN (nCopy (a 5) (a 6) (a 7) (a 8)) ∧ mCopy (iN (a 5)) (iN (a 6)) (iN (a 7)) (iN (a 8)) = iN (nCopy (a 5) (a 6) (a 7) (a 8)) ∧ 1 ≤ nCopy (a 5) (a 6) (a 7) (a 8) ∧ nCopy (a 5) (a 6) (a 7) (a 8) ≤ 6 := by
  obtain ⟨-, -, -, -, h5, h6, h7, -, h8⟩ := h
  obtain ⟨c1, c2, c3, c4⟩ := copy_all (a 5) (by omega) (a 6) (by omega) (a 7) (by omega) (a 8) (by omega) (by omega) (by omega)
  exact ⟨c1, c2, c3 h8.1, c4⟩
theorem aJob.tot {a : Nat → Nat} {nx : Nat} (h : aJob a nx) : 1 ≤ nTot a ∧ nTot a ≤ 18 := by
  have h3 := h.2.2.1
  obtain ⟨-, -, c3, c4⟩ := h.copy
  unfold nTot
  constructor
  · exact Nat.le_trans c3 (Nat.le_mul_of_pos_left _ (by omega))
  · exact Nat.le_trans (Nat.mul_le_mul h3.2 c4) (by decide)
def aNew (A : Nat → Nat → Nat) (k f : Nat) : Nat := if f = 9 ∧ ¬ A k 2 = 9 then 0 else A k f
theorem aNew_ne {A : Nat → Nat → Nat} {k f : Nat} (hf : ¬ f = 9) : aNew A k f = A k f := if_neg (fun h => hf h.1)
theorem aNew_9a {A : Nat → Nat → Nat} {k : Nat} (h : A k 2 = 9) : aNew A k 9 = A k 9 := if_neg (fun h9 => h9.2 h)
theorem aNew_9b {A : Nat → Nat → Nat} {k : Nat} (h : ¬ A k 2 = 9) : aNew A k 9 = 0 := if_pos ⟨rfl, h⟩
theorem t_restart {j : Nat} {w v : z_W} (hj : 4 * j + 4 ≤ 2048) (h : Rel j w v) : pS kP_restart kX_restart [] (Rel (j + 1)) w v := by
  have h' := h
  obtain ⟨len, lg, up, n, nx, A, h1, ⟨c1, c2, ⟨c4, c5, c6⟩, c7⟩, h3, h4, h5, ⟨⟨j1, j2, j3⟩, j4, ⟨j5, j6⟩, j7, j8, j9⟩, ⟨v1, v2, v3, v4, v5, v6⟩, h8, h9, h10⟩ := h'
  have hu : up = 0 ∨ up = 1 := by omega
  rcases hu with rfl | rfl
  · refine pS.of (P := fun w' r => w' = z_si (bpa n 0 w) 11 0 2 1 ∧ r = 1) (P' := fun v' r => v' = z_si (m_thr 0 v) 0 0 1 0 ∧ r = v.1 0 0 1) (e_restart0 c5 j2 j1 ⟨_, rfl, rfl, rfl⟩) (m_restart (Or.inr c6) ⟨_, rfl, rfl, rfl⟩) (fun w' r v' r' g1 g2 => ?_)
    obtain ⟨rfl, rfl⟩ := g1
    obtain ⟨rfl, rfl⟩ := g2
    refine ⟨c6.symm, Rel.idle hj ?_⟩
    obtain ⟨b1, b2⟩ := bpa_fr n 0 w
    have b3 := bpa_in (S := w) j6 n 0 w (by omega) rfl
    have er : (bpa n 0 w).2.2 = w.2.2 := by rw [b1]
    have b2' : ∀ g a k, ¬ (g = 9 ∧ k = 9) → ¬ g = 11 → (z_si (bpa n 0 w) 11 0 2 1).1 g a k = w.1 g a k := fun g a k hg hg2 => (if_neg (fun h => hg2 h.1)).trans (b2 g a k hg)
    refine ⟨len, lg, 1, n, nx, aNew A, ?_, ?_, ?_, ?_, ?_, ?_, ?_, h8, h9, h10⟩
    · obtain ⟨d1, d2, d3, d4⟩ := h1
      exact ⟨d1, by rw [b2' 1 0 1 (by decide) (by decide)]; exact d2, d3, fun k hk => by rw [b2' 2 0 k (fun h => absurd h.1 (by decide)) (by decide)]; exact d4 k hk⟩
    · refine ⟨?_, ⟨c2.1, ?_, c2.2.2⟩, ⟨by decide, rfl, rfl⟩, ?_⟩
      · show (bpa n 0 w).1 11 0 0 = _
        rw [b2 11 0 0 (by decide)]
        exact c1
      · show (bpa n 0 w).1 11 0 1 = _
        rw [b2 11 0 1 (by decide)]
        exact c2.2.1
      · have e3 : (z_si (bpa n 0 w) 11 0 2 1).1 11 0 3 = w.1 11 0 3 := b2 11 0 3 (by decide)
        rw [e3]
        exact c7
    · show (bpa n 0 w).1 14 0 2 = _
      rw [b2 14 0 2 (by decide)]
      exact h3
    · obtain ⟨q, q1, q2, q3, q4⟩ := h4
      exact ⟨q, q1, by rw [b2' 1 1 1 (by decide) (by decide)]; exact q2, q3, fun k hk => by rw [b2' 2 1 k (fun h => absurd h.1 (by decide)) (by decide)]; exact q4 k hk⟩
    · obtain ⟨q, q1, q2, q3, q4⟩ := h5
      exact ⟨q, q1, by rw [b2' 1 2 1 (by decide) (by decide)]; exact q2, q3, fun k hk => by rw [b2' 2 2 k (fun h => absurd h.1 (by decide)) (by decide)]; exact q4 k hk⟩
    · have er' : (z_si (bpa n 0 w) 11 0 2 1).2.2 = w.2.2 := er
      refine ⟨⟨j1, by rw [b2' 12 0 2 (by decide) (by decide)]; exact j2, j3⟩, ⟨by rw [b2' 12 0 3 (by decide) (by decide)]; exact j4.1, j4.2⟩, by rw [er']; exact ⟨j5, j6⟩, fun k hk f hf1 hf2 => ?_, fun k hk => ?_, fun k hk q hq => ?_⟩
      · rw [er', b2' 9 _ f (fun h => by omega) (by decide), aNew_ne (by omega)]
        exact j7 k hk f hf1 hf2
      · have e9 : (z_si (bpa n 0 w) 11 0 2 1).1 9 (w.2.2 13 0 k) 9 = _ := b3 k (by omega)
        obtain ⟨s1, s2⟩ := j8 k hk
        have st := (j7 k hk 2 (by decide) (by decide)).1
        have ha := (v1 k hk).2.1
        rw [er', e9, st]
        by_cases h9' : A k 2 = 9
        · rw [if_neg (fun h => h.2.2 (by rw [h9']; rfl)), if_pos (Or.inl rfl : 1 = 1 ∨ aNew A k 2 = 9), aNew_9a h9', s1]
          rw [if_pos (Or.inr h9')] at s2
          exact ⟨rfl, s2⟩
        · have hne : ¬ iN (A k 2) = 9 := fun h => h9' ((iN_inj (b := 9) (by omega) (by decide)).mp h)
          rw [if_pos ⟨Nat.zero_le _, by omega, hne⟩, if_pos (Or.inl rfl : 1 = 1 ∨ aNew A k 2 = 9), aNew_9b h9']
          rw [if_neg (fun h => by rcases h with h | h; omega; exact h9' h)] at s2
          exact ⟨rfl, s2⟩
      · rw [er', b2' 10 _ q (fun h => absurd h.1 (by decide)) (by decide)]
        exact j9 k hk q hq
    · refine ⟨v1, v2, v3, fun k hk => ?_, ?_, ?_⟩
      · obtain ⟨s1, s2, s3⟩ := v4 k hk
        show aNew A k 9 ≤ nTot (A k) ∧ (A k 2 = 3 ∨ A k 2 = 4 → aNew A k 9 = 0) ∧ (A k 2 = 5 → 1 = 1 → aNew A k 9 < nTot (A k))
        by_cases h9' : A k 2 = 9
        · rw [aNew_9a h9']
          exact ⟨s1, s2, fun h => by omega⟩
        · rw [aNew_9b h9']
          exact ⟨by omega, fun _ => rfl, fun _ _ => (v1 k hk).tot.1⟩
      · rw [nBlk_congr (A := aNew A) (B := A) n (fun k hk => rfl)]
        exact v5
      · rw [nLive_congr (A := aNew A) (B := A) n (fun k hk => ⟨rfl, rfl⟩)]
        exact v6
  · refine pS.of (P := fun w' r => w' = w ∧ r = 0) (P' := fun v' r => v' = z_si (m_thr 0 v) 0 0 1 0 ∧ r = v.1 0 0 1) (e_restart1 c5 ⟨_, rfl, rfl, rfl⟩) (m_restart (Or.inl c6) ⟨_, rfl, rfl, rfl⟩) (fun w' r v' r' g1 g2 => ?_)
    obtain ⟨rfl, rfl⟩ := g1
    obtain ⟨rfl, rfl⟩ := g2
    exact ⟨c6.symm, Rel.idle hj ⟨len, lg, 1, n, nx, A, h1, ⟨c1, c2, ⟨c4, c5, rfl⟩, c7⟩, h3, h4, h5, ⟨⟨j1, j2, j3⟩, j4, ⟨j5, j6⟩, j7, j8, j9⟩, ⟨v1, v2, v3, v4, v5, v6⟩, h8, h9, h10⟩⟩
