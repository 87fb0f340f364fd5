/-! a transaction keeps what class and reference have in common -/
theorem rDisk.st {lg up : Nat} {w v : z_W} (h : rDisk lg up w v) : ∃ st, stopIs st (w.1 11 0 3) ∧ stM st v := by
  obtain ⟨-, -, -, h⟩ := h
  rcases h with ⟨h1, h2⟩ | ⟨k, k1, k2, k3, k4⟩
  · exact ⟨none, h2, h1⟩
  · exact ⟨some k, ⟨k4, k1⟩, ⟨k2, k3, k1⟩⟩
theorem st_of {st : Option Nat} {x : Int32} {v : z_W} (h1 : stopIs st x) (h2 : stM st v) : (v.1 0 0 11 = 0 ∧ x = -1) ∨ ∃ k : Nat, k < 2147483648 ∧ v.1 0 0 11 = 1 ∧ v.1 0 0 12 = iN k ∧ x = iN k := by
  cases st with
  | none => exact Or.inl ⟨h2, h1⟩
  | some k => exact Or.inr ⟨k, h1.2, h2.1, h2.2.1, h1.1⟩
def tN (t : Bool × Nat × Option Nat × Nat × Bool) (n : Nat) (A : Nat → Nat → Nat) : Nat := if t.2.2.2.2 = true then (fgt A n).1 else n
def tA (t : Bool × Nat × Option Nat × Nat × Bool) (n : Nat) (A : Nat → Nat → Nat) : Nat → Nat → Nat := if t.2.2.2.2 = true then fgA A n else A
theorem tN_le (t : Bool × Nat × Option Nat × Nat × Bool) (n : Nat) (A : Nat → Nat → Nat) : tN t n A ≤ n := by
  unfold tN
  split
  · exact fgt_le A n
  · exact Nat.le_refl _
/-- the jobs behind a transaction, before the reference goes down -/
theorem T_jobs {t : Bool × Nat × Option Nat × Nat × Bool} {n nx : Nat} {A : Nat → Nat → Nat} {w w' v v1 : z_W} (hj : rJobs n nx 1 A w v) (h8 : ∀ k, k < n → A k 8 ≤ 6) (hc : cT t n A w w') (hm : mT t n A v v1) : rJobs (tN t n A) nx 1 (tA t n A) w' v1 := by
  obtain ⟨⟨j1, j2, j3⟩, ⟨j4, j4'⟩, ⟨j5, j6⟩, j7, j8, j9⟩ := hj
  obtain ⟨c1, c2, c3, c4, c5, c6, c7, c8⟩ := hc
  obtain ⟨m1, m2, m3, m4, m5, m6, m7⟩ := hm
  unfold tN tA
  have w9 : ∀ a f, w'.1 9 a f = w.1 9 a f := fun a f => c1 9 a f (fun h => absurd h.1 (by decide)) (fun h => absurd h.1 (by decide))
  have w10 : ∀ a f, w'.1 10 a f = w.1 10 a f := fun a f => c1 10 a f (fun h => absurd h.1 (by decide)) (fun h => absurd h.1 (by decide))
  have w3 : w'.1 12 0 3 = w.1 12 0 3 := c1 12 0 3 (by decide) (by decide)
  have v7 : v1.1 0 0 7 = v.1 0 0 7 := m2 0 0 7 (by decide) (by decide) (by decide)
  by_cases hn : t.2.2.2.2 = true
  · rw [if_pos hn, if_pos hn]
    obtain ⟨n1, n2, n3, n4⟩ := c7 hn
    obtain ⟨q1, q2⟩ := m6 hn
    have hle := fgt_le A n
    refine ⟨⟨by omega, n1, q1⟩, ⟨w3.trans j4, v7.trans j4'⟩, ⟨n3, n4⟩, fun k hk f hf1 hf2 => ?_, fun k hk => ?_, fun k hk q hq => ?_⟩
    · have hi := (fgt_in A n k hk).1
      have := j7 _ hi f hf1 hf2
      rw [w9, n2 k hk, (q2 k hk).1 (f - 1) (by omega)]
      exact this
    · have hi := (fgt_in A n k hk).1
      have := j8 _ hi
      rw [w9, n2 k hk, (q2 k hk).1 8 (by omega)]
      exact this
    · have hi := (fgt_in A n k hk).1
      have h6 := h8 _ hi
      have hq : q < 12 * A ((fgt A n).2 k) 8 := hq
      have := j9 _ hi q hq
      rw [w10, n2 k hk, (q2 k hk).2 q (by omega)]
      exact this
  · rw [if_neg hn, if_neg hn]
    obtain ⟨n1, n2⟩ := c8 hn
    obtain ⟨q1, q2⟩ := m7 hn
    refine ⟨⟨j1, n1.trans j2, q1.trans j3⟩, ⟨w3.trans j4, v7.trans j4'⟩, by rw [n2]; exact ⟨j5, j6⟩, fun k hk f hf1 hf2 => ?_, fun k hk => ?_, fun k hk q hq => ?_⟩
    · rw [w9, n2, q2 2 0 _ (Or.inl rfl)]
      exact j7 k hk f hf1 hf2
    · rw [w9, n2, q2 2 0 _ (Or.inl rfl)]
      exact j8 k hk
    · rw [w10, n2, q2 3 0 _ (Or.inr rfl)]
      exact j9 k hk q hq
theorem T_up {t : Bool × Nat × Option Nat × Nat × Bool} {lg n : Nat} {A : Nat → Nat → Nat} {w w' v v1 : z_W} (hd : rDisk lg 1 w v) (hc : cT t n A w w') (hm : mT t n A v v1) (ht : t.1 = true) (hl : t.2.2.2.1 ≤ 40) : rDisk t.2.2.2.1 1 w' v1 := by
  obtain ⟨d1, d2, ⟨d4, d5, d6⟩, d7⟩ := hd
  obtain ⟨c1, c2, c3, c4, c5, c6, c7, c8⟩ := hc
  obtain ⟨m1, m2, m3, m4, m5, m6, m7⟩ := hm
  rw [if_pos ht] at c5
  exact ⟨by rw [c3, m3, d1], ⟨hl, c4, m4⟩, ⟨d4, c5.trans d5, (m2 0 0 1 (by decide) (by decide) (by decide)).trans d6⟩, st_of c6 (m5 ht)⟩
/-- a stop that was met is no more -/
theorem aT_down {nb lg live : Nat} {st : Option Nat} (h : ¬ (aT nb lg live st).1 = true) : (aT nb lg live st).2.2.1 = none := by
  have key : ∀ d s, ¬ (aW d s).1 = true → (aW d s).2.2 = none := by
    intro d s h
    cases s with
    | none => exact absurd rfl h
    | some s =>
      by_cases hd : d ≤ s
      · rw [aW_le hd] at h
        exact absurd rfl h
      · rw [aW_gt hd]
  by_cases h1 : lg + nb ≤ 40
  · rw [aT_a h1] at h ⊢
    exact key _ _ h
  · by_cases h2 : (aW (live + 1) st).1 = true
    · rw [aT_b h1 h2] at h ⊢
      exact key _ _ h
    · rw [aT_c h1 h2] at h ⊢
      exact key _ _ h2
theorem gdn_0 {n k : Nat} {v : z_W} : (gdn n v).1 0 0 k = if k = 23 then -1 else if k = 11 then 0 else if k = 1 then 1 else v.1 0 0 k := by
  unfold gdn
  rw [(gd_fr n 0 _).2 0 0 k (fun h => absurd h.1 (by decide))]
  show (if (0:Nat) = 0 ∧ (0:Nat) = 0 ∧ k = 23 then _ else if (0:Nat) = 0 ∧ (0:Nat) = 0 ∧ k = 11 then _ else if (0:Nat) = 0 ∧ (0:Nat) = 0 ∧ k = 1 then _ else _) = _
  simp only [true_and]
theorem gdn_g {n g i k : Nat} {v : z_W} (hg : ¬ g = 0) (hg2 : ¬ (g = 2 ∧ ∃ q, q < n ∧ k = 10 * q + 8)) : (gdn n v).1 g i k = v.1 g i k := by
  unfold gdn
  rw [(gd_fr n 0 _).2 g i k (fun h => hg2 ⟨h.1, by obtain ⟨q, -, q2, q3⟩ := h.2; exact ⟨q, by omega, q3⟩⟩)]
  exact (if_neg (fun h => hg h.1)).trans ((if_neg (fun h => hg h.1)).trans (if_neg (fun h => hg h.1)))
theorem gdn_8 {n k : Nat} {v : z_W} (hk : k < n) : (gdn n v).1 2 0 (10 * k + 8) = if v.1 2 0 (10 * k + 1) = 9 then v.1 2 0 (10 * k + 8) else 0 := by
  unfold gdn
  rw [gd_in n 0 _ k (Nat.zero_le _) (by omega)]
  rfl
theorem T_down {t : Bool × Nat × Option Nat × Nat × Bool} {lg n : Nat} {A : Nat → Nat → Nat} {w w' v v1 : z_W} {m : Nat} (hd : rDisk lg 1 w v) (hc : cT t n A w w') (hm : mT t n A v v1) (ht : ¬ t.1 = true) (hs : t.2.2.1 = none) (hl : t.2.2.2.1 ≤ 40) : rDisk t.2.2.2.1 0 w' (gdn m v1) := by
  obtain ⟨d1, d2, ⟨d4, d5, d6⟩, d7⟩ := hd
  obtain ⟨c1, c2, c3, c4, c5, c6, c7, c8⟩ := hc
  obtain ⟨m1, m2, m3, m4, m5, m6, m7⟩ := hm
  rw [if_neg ht] at c5
  rw [hs] at c6
  refine ⟨?_, ⟨hl, c4, ?_⟩, ⟨by decide, c5, ?_⟩, Or.inl ⟨?_, c6⟩⟩
  · rw [gdn_0]
    exact c3.trans (by rw [d1]; exact m3.symm)
  · rw [gdn_0]
    exact m4
  · rw [gdn_0]
    rfl
  · rw [gdn_0]
    rfl
/-- the jobs when the reference has gone down: how far the passes were is lost there, but for those that are done -/
theorem J_down {n nx : Nat} {A : Nat → Nat → Nat} {w v : z_W} (h2 : ∀ k, k < n → nSt (A k 2)) (hj : rJobs n nx 1 A w v) : rJobs n nx 0 A w (gdn n v) := by
  obtain ⟨⟨j1, j2, j3⟩, ⟨j4, j4'⟩, j5, j7, j8, j9⟩ := hj
  refine ⟨⟨j1, j2, ?_⟩, ⟨j4, ?_⟩, j5, fun k hk f hf1 hf2 => ?_, fun k hk => ?_, fun k hk q hq => ?_⟩
  · rw [gdn_0]
    exact j3
  · rw [gdn_0]
    exact j4'
  · rw [gdn_g (by decide) (fun h => by obtain ⟨q, q1, q2⟩ := h.2; omega)]
    exact j7 k hk f hf1 hf2
  · obtain ⟨s1, s2⟩ := j8 k hk
    have st := (j7 k hk 2 (by decide) (by decide)).2
    have st : v.1 2 0 (10 * k + 1) = iN (A k 2) := st
    rw [if_pos (Or.inl rfl)] at s2
    rw [gdn_8 hk, st]
    refine ⟨s1, ?_⟩
    have h2 := h2 k hk
    unfold nSt at h2
    by_cases h9 : A k 2 = 9
    · rw [if_pos (show 0 = 1 ∨ A k 2 = 9 from Or.inr h9), if_pos (show iN (A k 2) = 9 by rw [h9]; rfl)]
      exact s2
    · rw [if_neg (show ¬ (0 = 1 ∨ A k 2 = 9) by omega), if_neg (show ¬ iN (A k 2) = 9 from fun h => h9 ((iN_inj (b := 9) (by omega) (by decide)).mp h))]
      rfl
  · rw [gdn_g (by decide) (fun h => absurd h.1 (by decide))]
    exact j9 k hk q hq
