/-! blocks of the jobs that live -/
def nEnd (s : Nat) : Prop := s = 7 ∨ s = 9
def nSt (s : Nat) : Prop := s = 3 ∨ s = 4 ∨ s = 5 ∨ s = 7 ∨ s = 9
theorem k_hasEnded {j s : Nat} {w : z_W} {Q : z_W → Option z_V → Prop} (hs : w.1 9 j 2 = iN s) (hs2 : nSt s) (h1 : nEnd s → Q w (some (zI 1))) (h0 : ¬ nEnd s → Q w (some (zI 0))) : z_C sC zM zCr kJ_hasEnded (0, [some (zR 9 j)], [], w) Q := by
  unfold nSt at hs2
  unfold nEnd at h1 h0
  have hb : s < 2147483648 := by omega
  refine z_C.go 4 rfl ?_
  refine z_C.if (fun h => ?_) (fun h => ?_)
  · have h : w.1 9 j 2 = 7 := h
    rw [hs] at h
    refine z_C.go 2 rfl ?_
    exact z_C.ret rfl rfl (h1 (Or.inl ((iN_inj (b := 7) hb (by decide)).mp h)))
  · have h : ¬ w.1 9 j 2 = 7 := h
    rw [hs] at h
    refine z_C.go 4 rfl ?_
    refine z_C.if (fun h' => ?_) (fun h' => ?_)
    · have h' : w.1 9 j 2 = 9 := h'
      rw [hs] at h'
      refine z_C.go 2 rfl ?_
      exact z_C.ret rfl rfl (h1 (Or.inr ((iN_inj (b := 9) hb (by decide)).mp h')))
    · have h' : ¬ w.1 9 j 2 = 9 := h'
      rw [hs] at h'
      refine z_C.go 1 rfl ?_
      exact z_C.ret rfl rfl (h0 (fun h9 => by
        rcases h9 with e | e
        · exact h (by rw [e]; rfl)
        · exact h' (by rw [e]; rfl)))
theorem k_blocks {j : Nat} {w : z_W} {Q : z_W → Option z_V → Prop} (hq : Q w (some (zI (1 + w.1 9 j 8)))) : z_C sC zM zCr kJ_blocks (0, [some (zR 9 j)], [], w) Q := by
  refine z_C.go 4 rfl ?_
  exact z_C.ret rfl rfl hq
theorem nLive_end {A : Nat → Nat → Nat} {i : Nat} (h : nEnd (A i 2)) : nLive A (i + 1) = nLive A i := by
  have h : A i 2 = 7 ∨ A i 2 = 9 := h
  show nLive A i + (if A i 2 = 7 ∨ A i 2 = 9 then 0 else 1 + A i 8) = _
  rw [if_pos h]
  rfl
theorem nLive_liv {A : Nat → Nat → Nat} {i : Nat} (h : ¬ nEnd (A i 2)) : nLive A (i + 1) = nLive A i + (1 + A i 8) := by
  have h : ¬ (A i 2 = 7 ∨ A i 2 = 9) := h
  show nLive A i + (if A i 2 = 7 ∨ A i 2 = 9 then 0 else 1 + A i 8) = _
  rw [if_neg h]
theorem nLive_le (A : Nat → Nat → Nat) (h : ∀ k, A k 8 ≤ 6) : ∀ n, nLive A n ≤ 7 * n := by
  intro n
  induction n with
  | zero => exact Nat.le_refl _
  | succ n ih =>
    unfold nLive
    have := h n
    split <;> omega
/-- the class's jobs, as whole numbers (states and pages) -/
def cLv (n : Nat) (A : Nat → Nat → Nat) (w : z_W) : Prop := (n ≤ 20 ∧ w.1 12 0 2 = iN n) ∧ ∀ k, k < n → w.1 9 (w.2.2 13 0 k) 2 = iN (A k 2) ∧ w.1 9 (w.2.2 13 0 k) 8 = iN (A k 8) ∧ nSt (A k 2) ∧ A k 8 ≤ 6
theorem k_live_loop {n : Nat} {A : Nat → Nat → Nat} {w : z_W} {Q : z_W → Option z_V → Prop} (hc : cLv n A w) (hq : Q w (some (zI (iN (nLive A n))))) : ∀ (d i : Nat), i + d = n →
    z_C sC zM zCr kS_liveBlocks (4, [some (zR 12 0), some (zI (iN (nLive A i))), some (zI (iN i))], [], w) Q := by
  obtain ⟨⟨hn2, hn⟩, hJ⟩ := hc
  intro d
  induction d with
  | zero =>
    intro i hi
    refine z_C.go 4 rfl ?_
    refine z_C.if (fun h => ?_) (fun h => ?_)
    · refine z_C.go 1 rfl ?_
      have e : i = n := by omega
      rw [e]
      exact z_C.ret rfl rfl hq
    · have h : ¬ w.1 12 0 2 ≤ iN i := h
      rw [hn, iN_le (by omega) (by omega)] at h
      omega
  | succ d ih =>
    intro i hi
    have hin : z_in (iN i) 20 = true := iN_in (by omega) (by omega)
    have hnat : (iN i).toNatClampNeg = i := iN_nat (by omega)
    have e : iN i + 1 = iN (i + 1) := iN_add i 1
    obtain ⟨s2, s8, st, p6⟩ := hJ i (by omega)
    refine z_C.go 4 rfl ?_
    refine z_C.if (fun h => ?_) (fun h => ?_)
    · have h : w.1 12 0 2 ≤ iN i := h
      rw [hn, iN_le (by omega) (by omega)] at h
      omega
    refine z_C.go 3 rfl ?_
    refine z_C.go1 rfl (if_pos ⟨rfl, hin⟩) ?_
    rw [hnat]
    by_cases he : nEnd (A i 2)
    · refine z_C.call rfl rfl (k_hasEnded (j := w.2.2 13 0 i) (Q := fun w' r => w' = w ∧ r = some (zI 1)) s2 st (fun _ => ⟨rfl, rfl⟩) (fun h => absurd he h)) (fun w' r h => ?_)
      obtain ⟨rfl, rfl⟩ := h
      refine z_C.go 3 rfl ?_
      have k9 := ih (i + 1) (by omega)
      have e9 : nLive A (i + 1) = nLive A i := nLive_end he
      rw [e9, ← e] at k9
      exact k9
    · refine z_C.call rfl rfl (k_hasEnded (j := w.2.2 13 0 i) (Q := fun w' r => w' = w ∧ r = some (zI 0)) s2 st (fun h => absurd h he) (fun _ => ⟨rfl, rfl⟩)) (fun w' r h => ?_)
      obtain ⟨rfl, rfl⟩ := h
      refine z_C.go 5 rfl ?_
      refine z_C.go1 rfl (if_pos ⟨rfl, hin⟩) ?_
      rw [hnat]
      refine z_C.call rfl rfl (k_blocks (j := w'.2.2 13 0 i) (Q := fun w'' r => w'' = w' ∧ r = some (zI (iN (1 + A i 8)))) ⟨rfl, by rw [s8]; exact congrArg (fun x => some (zI x)) (iN_add 1 _)⟩) (fun w'' r h => ?_)
      obtain ⟨rfl, rfl⟩ := h
      refine z_C.go 4 rfl ?_
      have k9 := ih (i + 1) (by omega)
      have e9 : iN (nLive A (i + 1)) = iN (nLive A i) + iN (1 + A i 8) := by
        have : nLive A (i + 1) = nLive A i + (1 + A i 8) := nLive_liv he
        rw [this]
        exact (iN_add _ _).symm
      rw [e9, ← e] at k9
      exact k9
theorem k_live {n : Nat} {A : Nat → Nat → Nat} {w : z_W} {Q : z_W → Option z_V → Prop} (hc : cLv n A w) (hq : Q w (some (zI (iN (nLive A n))))) : z_C sC zM zCr kS_liveBlocks (0, [some (zR 12 0), none, none], [], w) Q := by
  refine z_C.go 4 rfl ?_
  exact k_live_loop hc hq n 0 (by omega)
/-! the same of the reference -/
theorem m_hasEnded {k s : Nat} {v : z_W} {Q : z_W → Option z_V → Prop} (hk : k ≤ 24) (hs : v.1 2 0 (10 * k + 1) = iN s) (hs2 : nSt s) (h1 : nEnd s → Q v (some (zI 1))) (h0 : ¬ nEnd s → Q v (some (zI 0))) : mRun kX_hasEnded (0, [some (zR 0 0), some (zI (iN k))], [], v) Q := by
  unfold nSt at hs2
  unfold nEnd at h1 h0
  obtain ⟨-, i1, n1⟩ := j_ix (k := k) (f := 1) (by omega) (by omega)
  refine z_C.go 7 rfl ?_
  refine z_C.go1 rfl (if_pos ⟨rfl, i1⟩) ?_
  refine z_C.go 2 rfl ?_
  refine z_C.if (fun h => ?_) (fun h => ?_)
  · have h : v.1 2 0 (10 * iN k + iN 1).toNatClampNeg ≤ 5 := h
    rw [n1, hs] at h
    have h5 : s ≤ 5 := (iN_le (b := 5) (by omega) (by decide)).mp h
    refine z_C.go 1 rfl ?_
    exact z_C.ret rfl rfl (h0 (by omega))
  · have h : ¬ v.1 2 0 (10 * iN k + iN 1).toNatClampNeg ≤ 5 := h
    rw [n1, hs] at h
    have h5 : ¬ s ≤ 5 := fun h9 => h ((iN_le (b := 5) (by omega) (by decide)).mpr h9)
    refine z_C.go 2 rfl ?_
    exact z_C.ret rfl rfl (h1 (by omega))
def mLv (n : Nat) (A : Nat → Nat → Nat) (v : z_W) : Prop := (n ≤ 24 ∧ v.1 0 0 4 = iN n) ∧ ∀ k, k < n → v.1 2 0 (10 * k + 1) = iN (A k 2) ∧ v.1 2 0 (10 * k + 7) = iN (A k 8) ∧ nSt (A k 2) ∧ A k 8 ≤ 6
theorem m_blocks_loop {n : Nat} {A : Nat → Nat → Nat} {v : z_W} {Q : z_W → Option z_V → Prop} (hc : mLv n A v) (hq : Q v (some (zI (iN (nLive A n))))) : ∀ (d i : Nat), i + d = n →
    mRun kX_blocks (4, [some (zR 0 0), some (zI (iN (nLive A i))), some (zI (iN i))], [], v) Q := by
  obtain ⟨⟨hn2, hn⟩, hJ⟩ := hc
  intro d
  induction d with
  | zero =>
    intro i hi
    refine z_C.go 4 rfl ?_
    refine z_C.if (fun h => ?_) (fun h => ?_)
    · refine z_C.go 1 rfl ?_
      have e : i = n := by omega
      rw [e]
      exact z_C.ret rfl rfl hq
    · have h : ¬ v.1 0 0 4 ≤ iN i := h
      rw [hn, iN_le (by omega) (by omega)] at h
      omega
  | succ d ih =>
    intro i hi
    have e : iN i + 1 = iN (i + 1) := iN_add i 1
    obtain ⟨s2, s8, st, p6⟩ := hJ i (by omega)
    obtain ⟨-, i7, n7⟩ := j_ix (k := i) (f := 7) (by omega) (by omega)
    refine z_C.go 4 rfl ?_
    refine z_C.if (fun h => ?_) (fun h => ?_)
    · have h : v.1 0 0 4 ≤ iN i := h
      rw [hn, iN_le (by omega) (by omega)] at h
      omega
    refine z_C.go 3 rfl ?_
    by_cases he : nEnd (A i 2)
    · refine z_C.call rfl rfl (m_hasEnded (k := i) (Q := fun w' r => w' = v ∧ r = some (zI 1)) (by omega) s2 st (fun _ => ⟨rfl, rfl⟩) (fun h => absurd he h)) (fun w' r h => ?_)
      obtain ⟨rfl, rfl⟩ := h
      refine z_C.go 7 rfl ?_
      have k9 := ih (i + 1) (by omega)
      have e9 : iN (nLive A (i + 1)) = iN (nLive A i) + 0 := by
        have : nLive A (i + 1) = nLive A i := nLive_end he
        rw [this]
        exact (Int32.add_zero _).symm
      rw [e9, ← e] at k9
      exact k9
    · refine z_C.call rfl rfl (m_hasEnded (k := i) (Q := fun w' r => w' = v ∧ r = some (zI 0)) (by omega) s2 st (fun h => absurd h he) (fun _ => ⟨rfl, rfl⟩)) (fun w' r h => ?_)
      obtain ⟨rfl, rfl⟩ := h
      refine z_C.go 9 rfl ?_
      refine z_C.go1 rfl (if_pos ⟨rfl, i7⟩) ?_
      refine z_C.go 5 rfl ?_
      have k9 := ih (i + 1) (by omega)
      have e9 : iN (nLive A (i + 1)) = iN (nLive A i) + (1 + w'.1 2 0 (10 * iN i + iN 7).toNatClampNeg) := by
        have : nLive A (i + 1) = nLive A i + (1 + A i 8) := nLive_liv he
        rw [this, n7, s8]
        show _ = iN (nLive A i) + (iN 1 + iN (A i 8))
        rw [iN_add, iN_add]
      rw [e9, ← e] at k9
      exact k9
theorem m_blocks {n : Nat} {A : Nat → Nat → Nat} {v : z_W} {Q : z_W → Option z_V → Prop} (hc : mLv n A v) (hq : Q v (some (zI (iN (nLive A n))))) : mRun kX_blocks (0, [some (zR 0 0), none, none], [], v) Q := by
  refine z_C.go 4 rfl ?_
  exact m_blocks_loop hc hq n 0 (by omega)
