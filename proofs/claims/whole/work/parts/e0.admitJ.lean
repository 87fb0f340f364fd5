/-! a job comes in: what both sides have in common -/
theorem rowR_byte {D : Nat → Nat} {len : Nat} (hb : ∀ k, k < len → D k < 256) : ∀ f p c R R' p', c ≤ 4 → (∀ x, R x < 256) → rowR D len f p c R (some (R', p')) → ∀ x, R' x < 256 := by
  intro f
  induction f with
  | zero => intro p c R R' p' _ hR h; cases h.2; exact hR
  | succ f ih =>
    intro p c R R' p' hc hR h
    rcases h with ⟨-, h⟩ | ⟨-, hk, h⟩ | ⟨-, -, h⟩
    · cases h; exact hR
    · refine ih _ _ _ _ _ hk.2.2.1 (fun x => ?_) h
      unfold rowS
      by_cases e : c ≤ x ∧ x < c + runN (D p)
      · rw [if_pos e]
        by_cases e8 : D p < 128
        · rw [if_pos e8]
          exact hb _ (by have := hk.2.2.2.1 e8; omega)
        · rw [if_neg e8]
          exact hb _ (by have := hk.2.2.2.2 (by have := hk.2.1; omega); omega)
      · rw [if_neg e]
        exact hR x
    · cases h
theorem rasR_byte {D : Nat → Nat} {len : Nat} (hb : ∀ k, k < len → D k < 256) : ∀ f p t X X' p', (∀ x, X x < 256) → rasR D len f p t X (some (X', p')) → ∀ x, X' x < 256 := by
  intro f
  induction f with
  | zero => intro p t X X' p' hX h; cases h.2; exact hX
  | succ f ih =>
    intro p t X X' p' hX h
    rcases h with ⟨-, h⟩ | ⟨-, -, h⟩ | ⟨-, hk, o1, h1, h2⟩
    · cases h; exact hX
    · cases h
    · rcases h2 with ⟨-, h⟩ | ⟨R, p1, e, h⟩
      · cases h
      · subst e
        have hR := rowR_byte hb _ _ _ _ _ _ (by decide) (fun _ => by decide) h1
        refine ih _ _ _ _ _ (fun x => ?_) h
        unfold putR
        split
        · exact hR _
        · exact hX x
theorem pgsR_byte {D : Nat → Nat} {len : Nat} (hb : ∀ k, k < len → D k < 256) : ∀ f p n Y n' Y', (∀ x, Y x < 256) → pgsR D len f p n Y (some (n', Y')) → ∀ x, Y' x < 256 := by
  intro f
  induction f with
  | zero => intro p n Y n' Y' hY h; cases h.2; exact hY
  | succ f ih =>
    intro p n Y n' Y' hY h
    rcases h with ⟨-, h⟩ | ⟨-, -, h⟩ | ⟨-, -, o1, h1, h2⟩
    · cases h; exact hY
    · cases h
    · rcases h2 with ⟨-, h⟩ | ⟨X, p1, e, h⟩
      · cases h
      · subst e
        have hX := rasR_byte hb _ _ _ _ _ _ (fun _ => by decide) h1
        refine ih _ _ _ _ _ (fun x => ?_) h
        unfold putP
        split
        · exact hX _
        · exact hY x
/-- the new job -/
def aS (S : Nat → Nat) (pg nx f : Nat) : Nat := if f = 1 then nx else if f = 2 then (if S 9 = 1 then 4 else 3) else if f = 8 then pg else if f = 9 then 0 else S (f - 1)
def nA (A : Nat → Nat → Nat) (n : Nat) (a : Nat → Nat) (k f : Nat) : Nat := if k = n then a f else A k f
theorem nA_n {A : Nat → Nat → Nat} {n : Nat} {a : Nat → Nat} : nA A n a n = a := funext fun f => if_pos rfl
theorem nA_k {A : Nat → Nat → Nat} {n k : Nat} {a : Nat → Nat} (h : ¬ k = n) : nA A n a k = A k := funext fun f => if_neg h
theorem cPr.a {S : Nat → Nat} {pg nx : Nat} {Y : Nat → Nat} {w : z_W} (h : cPr S pg Y w) : ∀ f, 2 ≤ f → f ≤ 9 → w.1 9 20 f = iN (aS S pg nx f) := by
  obtain ⟨⟨c1, c2, c3, c4, c5, c6⟩, c8, c9, -⟩ := h
  intro f h1 h2
  have hc : f = 2 ∨ f = 3 ∨ f = 4 ∨ f = 5 ∨ f = 6 ∨ f = 7 ∨ f = 8 ∨ f = 9 := by omega
  rcases hc with rfl | rfl | rfl | rfl | rfl | rfl | rfl | rfl
  · exact c6
  · exact c1
  · exact c2
  · exact c3
  · exact c4
  · exact c5
  · exact c8
  · exact c9
theorem J_admit {n nx pg : Nat} {S Y : Nat → Nat} {A : Nat → Nat → Nat} {w1 w2 v1 v2 v3 : z_W} {rr : Nat} (hj : rJobs n nx 1 A w1 v1) (h8 : ∀ k, k < n → A k 8 ≤ 6) (hn : n < 20) (hpg : pg ≤ 6) (hrr : rr = w1.2.2 13 0 n) (hcp : cpW rr w1 w2) (hf : ∀ f, 2 ≤ f → f ≤ 9 → w2.1 9 rr f = iN (aS S pg nx f)) (hp : ∀ q, q < 72 → w2.1 10 rr q = w1.1 10 20 q)
    (hY : ∀ q, q < 12 * pg → w1.1 10 20 q = iN (Y q)) (hYb : ∀ q, Y q < 256) (hM : mPr S pg Y v1) (ca : cpA 25 n 10 (rdM nx (if S 9 = 1 then 4 else 3) v1) v2) (cb : cpB 25 n 72 v2 v3) :
    rJobs (n + 1) (nx + 1) 1 (nA A n (aS S pg nx)) (admC n nx rr w2) (admM n nx v3) := by
  obtain ⟨⟨j1, j2, j3⟩, ⟨j4, j4'⟩, ⟨j5, j6⟩, j7, j8, j9⟩ := hj
  obtain ⟨m1, m2, m3, m4⟩ := hM
  obtain ⟨r1, r2, ⟨r3, r4⟩, r5⟩ := cp_row ca cb
  have er : (admC n nx rr w2).2.2 = w1.2.2 := by show w2.2.2 = _; rw [hcp.1]
  have hne : ∀ k, k < n → ¬ w1.2.2 13 0 k = rr := fun k hk h => by
    have := j6 k n (by omega) (by omega) (h.trans hrr)
    omega
  have w9 : ∀ k, k < n → ∀ f, (admC n nx rr w2).1 9 (w1.2.2 13 0 k) f = w1.1 9 (w1.2.2 13 0 k) f := fun k hk f =>
    (rd_g (by omega)).trans ((rd_g (by omega)).trans ((rd_g (fun h => hne k hk h.2.1)).trans (hcp.2 9 _ f (fun h => hne k hk h.2.1) (by omega))))
  have w10 : ∀ k, k < n → ∀ q, (admC n nx rr w2).1 10 (w1.2.2 13 0 k) q = w1.1 10 (w1.2.2 13 0 k) q := fun k hk q =>
    (rd_g (by omega)).trans ((rd_g (by omega)).trans ((rd_g (by omega)).trans (hcp.2 10 _ q (by omega) (fun h => hne k hk h.2))))
  have v2' : ∀ k, k < n → ∀ f, f < 10 → (admM n nx v3).1 2 0 (10 * k + f) = v1.1 2 0 (10 * k + f) := fun k hk f hf =>
    (rd_g (by omega)).trans ((rd_g (by omega)).trans (((r5 k (by omega)).1 f hf).trans ((rd_g (by omega)).trans (rd_g (by omega)))))
  have v3' : ∀ k, k < n → ∀ q, q < 72 → (admM n nx v3).1 3 0 (72 * k + q) = v1.1 3 0 (72 * k + q) := fun k hk q hq =>
    (rd_g (by omega)).trans ((rd_g (by omega)).trans (((r5 k (by omega)).2 q hq).trans ((rd_g (by omega)).trans (rd_g (by omega)))))
  refine ⟨⟨by omega, ?_, ?_⟩, ⟨?_, ?_⟩, ⟨by rw [er]; exact j5, by rw [er]; exact j6⟩, fun k hk f hf1 hf2 => ?_, fun k hk => ?_, fun k hk q hq => ?_⟩
  · rfl
  · rfl
  · rfl
  · rfl
  · rw [er]
    by_cases e : k = n
    · subst e
      rw [nA_n, ← hrr]
      refine ⟨?_, ?_⟩
      · by_cases e1 : f = 1
        · subst e1
          exact (rd_g (by omega)).trans ((rd_g (by omega)).trans (if_pos ⟨rfl, rfl, rfl⟩))
        · exact (rd_g (by omega)).trans ((rd_g (by omega)).trans ((rd_g (by omega)).trans (hf f (by omega) (by omega))))
      · refine (rd_g (by omega)).trans ((rd_g (by omega)).trans ((r3 (f - 1) (by omega)).trans ?_))
        have hc : f = 1 ∨ f = 2 ∨ f = 3 ∨ f = 4 ∨ f = 5 ∨ f = 6 ∨ f = 7 ∨ f = 8 := by omega
        rcases hc with rfl | rfl | rfl | rfl | rfl | rfl | rfl | rfl
        · rfl
        · rfl
        · exact m1 2 (by unfold inS; decide)
        · exact m1 3 (by unfold inS; decide)
        · exact m1 4 (by unfold inS; decide)
        · exact m1 5 (by unfold inS; decide)
        · exact m1 6 (by unfold inS; decide)
        · exact m2
    · have a := j7 k (by omega) f hf1 hf2
      rw [nA_k e, w9 k (by omega), v2' k (by omega) (f - 1) (by omega)]
      exact a
  · rw [er]
    by_cases e : k = n
    · subst e
      rw [nA_n, ← hrr, if_pos (Or.inl rfl)]
      refine ⟨?_, ?_⟩
      · exact (rd_g (by omega)).trans ((rd_g (by omega)).trans ((rd_g (by omega)).trans (hf 9 (by omega) (by omega))))
      · exact (rd_g (by omega)).trans ((rd_g (by omega)).trans ((r3 8 (by omega)).trans m3))
    · have a := j8 k (by omega)
      rw [nA_k e, w9 k (by omega), v2' k (by omega) 8 (by omega)]
      exact a
  · rw [er]
    by_cases e : k = n
    · subst e
      rw [nA_n] at hq
      have hq : q < 12 * pg := hq
      rw [← hrr]
      refine ⟨Y q, hYb q, ?_, ?_⟩
      · exact (rd_g (by omega)).trans ((rd_g (by omega)).trans ((rd_g (by omega)).trans ((hp q (by omega)).trans (hY q hq))))
      · exact (rd_g (by omega)).trans ((rd_g (by omega)).trans ((r4 q (by omega)).trans ((rd_g (by omega)).trans ((rd_g (by omega)).trans (m4 q hq)))))
    · rw [nA_k e] at hq
      have h6 := h8 k (by omega)
      have a := j9 k (by omega) q hq
      rw [w10 k (by omega), v3' k (by omega) q (by omega)]
      exact a
theorem aS_job {S : Nat → Nat} {pg nx : Nat} (hS : sOK S) (hb : S 6 = 0 ∨ S 4 = 1) (h1 : 1 ≤ nx) (hp : 1 ≤ pg ∧ pg ≤ 6) : aJob (aS S pg nx) (nx + 1) := by
  obtain ⟨s2, s3, s4, s5, s6, s9⟩ := hS
  refine ⟨⟨h1, Nat.lt_succ_self _⟩, ?_, s2, s3, s4, s5, s6, fun h => ?_, hp⟩
  · show (if S 9 = 1 then 4 else 3) = 3 ∨ (if S 9 = 1 then 4 else 3) = 4 ∨ (if S 9 = 1 then 4 else 3) = 5 ∨ (if S 9 = 1 then 4 else 3) = 7 ∨ (if S 9 = 1 then 4 else 3) = 9
    split
    · exact Or.inr (Or.inl rfl)
    · exact Or.inl rfl
  · have h : S 6 = 1 := h
    rcases hb with h9 | h9
    · omega
    · exact h9
theorem aJob.up1 {a : Nat → Nat} {nx : Nat} (h : aJob a nx) : aJob a (nx + 1) := ⟨⟨h.1.1, by have := h.1.2; omega⟩, h.2⟩
theorem wJobs.adm {n nx lg pg : Nat} {S : Nat → Nat} {A : Nat → Nat → Nat} (h : wJobs n nx lg A) (hS : sOK S) (hb : S 6 = 0 ∨ S 4 = 1) (hx : 1 ≤ nx) (hp : 1 ≤ pg ∧ pg ≤ 6) (hbl : nBlk A n + (1 + pg) ≤ lg) (hlv : nLive A n + (1 + pg) ≤ 36) : wJobs (n + 1) (nx + 1) lg (nA A n (aS S pg nx)) := by
  obtain ⟨h1, h2, h3, h4, h6, h7⟩ := h
  have st : aS S pg nx 2 = 3 ∨ aS S pg nx 2 = 4 := by
    show (if S 9 = 1 then 4 else 3) = 3 ∨ (if S 9 = 1 then 4 else 3) = 4
    split
    · exact Or.inr rfl
    · exact Or.inl rfl
  refine ⟨fun k hk => ?_, fun k l hkl hl => ?_, fun k l hk hl => ?_, fun k hk => ?_, ?_, ?_⟩
  · by_cases e : k = n
    · subst e
      rw [nA_n]
      exact aS_job hS hb hx hp
    · rw [nA_k e]
      exact (h1 k (by omega)).up1
  · rw [nA_k (show ¬ k = n by omega)]
    by_cases e : l = n
    · subst e
      rw [nA_n]
      show A k 1 < nx
      exact (h1 k hkl).1.2
    · rw [nA_k e]
      exact h2 k l hkl (by omega)
  · by_cases ek : k = n
    · subst ek
      rw [nA_n]
      intro h5
      omega
    · by_cases el : l = n
      · subst el
        rw [nA_n]
        intro _ h5
        omega
      · rw [nA_k ek, nA_k el]
        exact h3 k l (by omega) (by omega)
  · by_cases e : k = n
    · subst e
      rw [nA_n]
      exact ⟨Nat.zero_le _, fun _ => rfl⟩
    · rw [nA_k e]
      exact h4 k (by omega)
  · show nBlk (nA A n (aS S pg nx)) n + (1 + nA A n (aS S pg nx) n 8) ≤ lg
    rw [nBlk_congr (A := nA A n (aS S pg nx)) (B := A) n (fun l hl => by rw [nA_k (show ¬ l = n by omega)]), nA_n]
    exact hbl
  · show nLive (nA A n (aS S pg nx)) n + (if nA A n (aS S pg nx) n 2 = 7 ∨ nA A n (aS S pg nx) n 2 = 9 then 0 else 1 + nA A n (aS S pg nx) n 8) ≤ 36
    rw [nLive_congr (A := nA A n (aS S pg nx)) (B := A) n (fun l hl => by rw [nA_k (show ¬ l = n by omega)]; exact ⟨rfl, rfl⟩), nA_n, if_neg (by omega)]
    exact hlv
theorem nBlk_2 {A : Nat → Nat → Nat} : ∀ n, (∀ k, k < n → 1 ≤ A k 8) → 2 * n ≤ nBlk A n := by
  intro n
  induction n with
  | zero => intro _; exact Nat.le_refl _
  | succ n ih =>
    intro h
    have h1 := ih (fun k hk => h k (by omega))
    have h8 := h n (by omega)
    show 2 * (n + 1) ≤ nBlk A n + (1 + A n 8)
    omega
/-- both sides with the new job -/
theorem Core.adm {len lg n nx pg : Nat} {S Y : Nat → Nat} {A : Nat → Nat → Nat} {w1 w2 v1 v2 v3 : z_W} {rr : Nat} (h : Core len lg n nx A w1 v1) (h8 : ∀ k, k < n → A k 8 ≤ 6) (hn : n < 20) (hpg : pg ≤ 6) (hrr : rr = w1.2.2 13 0 n) (hcp : cpW rr w1 w2) (hf : ∀ f, 2 ≤ f → f ≤ 9 → w2.1 9 rr f = iN (aS S pg nx f)) (hp : ∀ q, q < 72 → w2.1 10 rr q = w1.1 10 20 q)
    (hY : ∀ q, q < 12 * pg → w1.1 10 20 q = iN (Y q)) (hYb : ∀ q, Y q < 256) (hM : mPr S pg Y v1) (ca : cpA 25 n 10 (rdM nx (if S 9 = 1 then 4 else 3) v1) v2) (cb : cpB 25 n 72 v2 v3) :
    Core len lg (n + 1) (nx + 1) (nA A n (aS S pg nx)) (admC n nx rr w2) (admM n nx v3) := by
  obtain ⟨c1, c2, c3, c4, c5, c6⟩ := h
  obtain ⟨r1, r2, -, -⟩ := cp_row ca cb
  have wf : ∀ g i k, ¬ g = 9 → ¬ g = 10 → ¬ g = 12 → (admC n nx rr w2).1 g i k = w1.1 g i k := fun g i k a b c => (rd_g (by omega)).trans ((rd_g (by omega)).trans ((rd_g (by omega)).trans (hcp.2 g i k (by omega) (by omega))))
  have vf : ∀ g i k, ¬ g = 2 → ¬ g = 3 → ¬ (g = 0 ∧ (k = 4 ∨ k = 7)) → (admM n nx v3).1 g i k = v1.1 g i k := fun g i k a b c => (rd_g (by omega)).trans ((rd_g (by omega)).trans ((r2 g i k a b).trans ((rd_g (by omega)).trans (rd_g (by omega)))))
  refine ⟨c1.fr (wf 1 0 1 (by omega) (by omega) (by omega)) (fun q => wf 2 0 q (by omega) (by omega) (by omega)) (vf 0 0 2 (by omega) (by omega) (by omega)) (fun q => vf 1 0 q (by omega) (by omega) (by omega)),
    c2.fr (fun q => wf 11 0 q (by omega) (by omega) (by omega)) (fun q hq => vf 0 0 q (by omega) (by omega) (by omega)), ?_,
    c4.fr (wf 1 1 1 (by omega) (by omega) (by omega)) (fun q => wf 2 1 q (by omega) (by omega) (by omega)) (vf 0 0 23 (by omega) (by omega) (by omega)) (fun q => vf 5 0 q (by omega) (by omega) (by omega)),
    c5.fr (wf 1 2 1 (by omega) (by omega) (by omega)) (fun q => wf 2 2 q (by omega) (by omega) (by omega)) (vf 0 0 25 (by omega) (by omega) (by omega)) (fun q => vf 6 0 q (by omega) (by omega) (by omega)), J_admit c6 h8 hn hpg hrr hcp hf hp hY hYb hM ca cb⟩
  show (admC n nx rr w2).1 14 0 2 = (admM n nx v3).1 0 0 10
  rw [wf 14 0 2 (by omega) (by omega) (by omega), vf 0 0 10 (by omega) (by omega) (by omega)]
  exact c3
