/-! the reference forgets the ended jobs -/
def mfI (A : Nat → Nat → Nat) (i : Nat) (v v' : z_W) : Prop :=
  v'.2 = v.2 ∧ (∀ g a q, ¬ g = 2 → ¬ g = 3 → v'.1 g a q = v.1 g a q) ∧ (∀ k, k < (fgt A i).1 → (∀ f, f < 10 → v'.1 2 0 (10 * k + f) = v.1 2 0 (10 * (fgt A i).2 k + f)) ∧ ∀ q, q < 72 → v'.1 3 0 (72 * k + q) = v.1 3 0 (72 * (fgt A i).2 k + q)) ∧
  ∀ k, i ≤ k → (∀ f, f < 10 → v'.1 2 0 (10 * k + f) = v.1 2 0 (10 * k + f)) ∧ ∀ q, q < 72 → v'.1 3 0 (72 * k + q) = v.1 3 0 (72 * k + q)
theorem cp_row {a b : Nat} {v v1 v' : z_W} (h1 : cpA a b 10 v v1) (h2 : cpB a b 72 v1 v') : v'.2 = v.2 ∧ (∀ g i q, ¬ g = 2 → ¬ g = 3 → v'.1 g i q = v.1 g i q) ∧ ((∀ f, f < 10 → v'.1 2 0 (10 * b + f) = v.1 2 0 (10 * a + f)) ∧ ∀ q, q < 72 → v'.1 3 0 (72 * b + q) = v.1 3 0 (72 * a + q)) ∧
    ∀ k, ¬ k = b → (∀ f, f < 10 → v'.1 2 0 (10 * k + f) = v.1 2 0 (10 * k + f)) ∧ ∀ q, q < 72 → v'.1 3 0 (72 * k + q) = v.1 3 0 (72 * k + q) := by
  obtain ⟨a1, a2, a3⟩ := h1
  obtain ⟨b1, b2, b3⟩ := h2
  refine ⟨b1.trans a1, fun g i q h2 h3 => (b2 g i q (fun h => h3 h.1)).trans (a2 g i q (fun h => h2 h.1)), ⟨fun f hf => (b2 2 0 _ (fun h => absurd h.1 (by decide))).trans (a3 f hf), fun q hq => (b3 q hq).trans (a2 3 0 _ (fun h => absurd h.1 (by decide)))⟩, fun k hk => ⟨fun f hf => (b2 2 0 _ (fun h => absurd h.1 (by decide))).trans (a2 2 0 _ (fun h => by omega)), fun q hq => (b2 3 0 _ (fun h => by omega)).trans (a2 3 0 _ (fun h => absurd h.1 (by decide)))⟩⟩
theorem m_forget_loop {n : Nat} {A : Nat → Nat → Nat} {v : z_W} {Q : z_W → Option z_V → Prop} (hc : mLv n A v) (hq : ∀ v', mfI A n v v' → Q (z_si v' 0 0 4 (iN (fgt A n).1)) none) : ∀ (d i : Nat) (v' : z_W), i + d = n → mfI A i v v' →
    mRun kX_forget (4, [some (zR 0 0), some (zI (iN (fgt A i).1)), some (zI (iN i))], [], v') Q := by
  obtain ⟨⟨hn2, hn⟩, hJ⟩ := hc
  intro d
  induction d with
  | zero =>
    intro i v' hi hI
    have hn' : v'.1 0 0 4 = iN n := (hI.2.1 0 0 4 (by decide) (by decide)).trans hn
    refine z_C.go 4 rfl ?_
    refine z_C.if (fun h => ?_) (fun h => ?_)
    · refine z_C.go 3 rfl ?_
      have e : i = n := by omega
      rw [e] at hI ⊢
      exact z_C.ret rfl rfl (hq v' hI)
    · have h : ¬ v'.1 0 0 4 ≤ iN i := h
      rw [hn', iN_le (by omega) (by omega)] at h
      omega
  | succ d ih =>
    intro i v' hi hI
    have hI' := hI
    obtain ⟨f1, f2, f3, f4⟩ := hI'
    have hn' : v'.1 0 0 4 = iN n := (f2 0 0 4 (by decide) (by decide)).trans hn
    have e : iN i + 1 = iN (i + 1) := iN_add i 1
    have hcl := fgt_le A i
    obtain ⟨s2, s8, st, p6⟩ := hJ i (by omega)
    have s2' : v'.1 2 0 (10 * i + 1) = iN (A i 2) := ((f4 i (Nat.le_refl _)).1 1 (by decide)).trans s2
    refine z_C.go 4 rfl ?_
    refine z_C.if (fun h => ?_) (fun h => ?_)
    · have h : v'.1 0 0 4 ≤ iN i := h
      rw [hn', iN_le (by omega) (by omega)] at h
      omega
    refine z_C.go 2 rfl ?_
    by_cases he : nEnd (A i 2)
    · refine z_C.call rfl rfl (m_hasEnded (k := i) (Q := fun w'' r => w'' = v' ∧ r = some (zI 1)) (by omega) s2' st (fun _ => ⟨rfl, rfl⟩) (fun h => absurd he h)) (fun w'' r h => ?_)
      obtain ⟨rfl, rfl⟩ := h
      refine z_C.go 3 rfl ?_
      have k9 := ih (i + 1) w'' (by omega) ⟨f1, f2, by rw [fgt_end he]; exact f3, fun k hk => f4 k (by omega)⟩
      rw [fgt_end he, ← e] at k9
      exact k9
    · refine z_C.call rfl rfl (m_hasEnded (k := i) (Q := fun w'' r => w'' = v' ∧ r = some (zI 0)) (by omega) s2' st (fun h => absurd h he) (fun _ => ⟨rfl, rfl⟩)) (fun w'' r h => ?_)
      obtain ⟨rfl, rfl⟩ := h
      refine z_C.go 4 rfl ?_
      refine z_C.call rfl rfl (m_copy (a := i) (b := (fgt A i).1) (Q := fun w' r => r = none ∧ ∃ v1, cpA i (fgt A i).1 10 w'' v1 ∧ cpB i (fgt A i).1 72 v1 w') (by omega) (by omega) (fun v1 v2 g1 g2 => ⟨rfl, v1, g1, g2⟩)) (fun w' r h => ?_)
      obtain ⟨rfl, v1, g1, g2⟩ := h
      refine z_C.go 3 rfl ?_
      obtain ⟨r1, r2, r3, r4⟩ := cp_row g1 g2
      have k9 := ih (i + 1) w' (by omega) (by
        refine ⟨r1.trans f1, fun g a q h2 h3 => (r2 g a q h2 h3).trans (f2 g a q h2 h3), fun k hk => ?_, fun k hk => ?_⟩
        · rw [fgt_live he] at hk ⊢
          have hk : k < (fgt A i).1 + 1 := hk
          show (∀ f, f < 10 → w'.1 2 0 (10 * k + f) = v.1 2 0 (10 * (if k = (fgt A i).1 then i else (fgt A i).2 k) + f)) ∧ ∀ q, q < 72 → w'.1 3 0 (72 * k + q) = v.1 3 0 (72 * (if k = (fgt A i).1 then i else (fgt A i).2 k) + q)
          by_cases hz : k = (fgt A i).1
          · rw [if_pos hz, hz]
            exact ⟨fun f hf => (r3.1 f hf).trans ((f4 i (Nat.le_refl _)).1 f hf), fun q hq => (r3.2 q hq).trans ((f4 i (Nat.le_refl _)).2 q hq)⟩
          · rw [if_neg hz]
            exact ⟨fun f hf => ((r4 k hz).1 f hf).trans ((f3 k (by omega)).1 f hf), fun q hq => ((r4 k hz).2 q hq).trans ((f3 k (by omega)).2 q hq)⟩
        · have hz : ¬ k = (fgt A i).1 := by omega
          exact ⟨fun f hf => ((r4 k hz).1 f hf).trans ((f4 k (by omega)).1 f hf), fun q hq => ((r4 k hz).2 q hq).trans ((f4 k (by omega)).2 q hq)⟩)
      have ec : iN (fgt A (i + 1)).1 = iN (fgt A i).1 + 1 := by
        rw [fgt_live he]
        exact (iN_add _ 1).symm
      rw [ec, ← e] at k9
      exact k9
theorem m_forget {n : Nat} {A : Nat → Nat → Nat} {v : z_W} {Q : z_W → Option z_V → Prop} (hc : mLv n A v) (hq : ∀ v', mfI A n v v' → Q (z_si v' 0 0 4 (iN (fgt A n).1)) none) : mRun kX_forget (0, [some (zR 0 0), none, none], [], v) Q := by
  refine z_C.go 4 rfl ?_
  exact m_forget_loop hc hq n 0 v (by omega) ⟨rfl, fun _ _ _ _ _ => rfl, fun k hk => absurd hk (Nat.not_lt_zero _), fun _ _ => ⟨fun _ _ => rfl, fun _ _ => rfl⟩⟩
