/-! the first of those that may be -/
def chF (m : Nat → Bool) (A : Nat → Nat → Nat) : Nat → Option Nat
  | 0 => none
  | i + 1 => match chF m A i with
    | none => if m i = true then some i else none
    | some f => if m i = true ∧ nBef (A i) (A f) = true then some i else some f
theorem chF_lt {m : Nat → Bool} {A : Nat → Nat → Nat} : ∀ i f, chF m A i = some f → f < i ∧ m f = true := by
  intro i
  induction i with
  | zero => intro f h; cases h
  | succ i ih =>
    intro f h
    unfold chF at h
    cases hc : chF m A i with
    | none =>
      rw [hc] at h
      dsimp only at h
      split at h
      · cases h; exact ⟨Nat.lt_succ_self _, ‹_›⟩
      · cases h
    | some g =>
      rw [hc] at h
      dsimp only at h
      split at h
      · cases h; exact ⟨Nat.lt_succ_self _, ‹_ ∧ _›.1⟩
      · cases h; exact ⟨Nat.lt_succ_of_lt (ih _ hc).1, (ih _ hc).2⟩
theorem chF_none {m : Nat → Bool} {A : Nat → Nat → Nat} {i : Nat} (h : chF m A i = none) (hm : ¬ m i = true) : chF m A (i + 1) = none := by
  unfold chF
  rw [h]
  exact if_neg hm
theorem chF_new {m : Nat → Bool} {A : Nat → Nat → Nat} {i : Nat} (h : chF m A i = none) (hm : m i = true) : chF m A (i + 1) = some i := by
  unfold chF
  rw [h]
  exact if_pos hm
theorem chF_bef {m : Nat → Bool} {A : Nat → Nat → Nat} {i f : Nat} (h : chF m A i = some f) (hm : m i = true) (hb : nBef (A i) (A f) = true) : chF m A (i + 1) = some i := by
  unfold chF
  rw [h]
  exact if_pos ⟨hm, hb⟩
theorem chF_old {m : Nat → Bool} {A : Nat → Nat → Nat} {i f : Nat} (h : chF m A i = some f) (hm : ¬ (m i = true ∧ nBef (A i) (A f) = true)) : chF m A (i + 1) = some f := by
  unfold chF
  rw [h]
  exact if_neg hm
/-- the class's jobs as rows of numbers -/
def cRows (n : Nat) (A : Nat → Nat → Nat) (w : z_W) : Prop := (n ≤ 20 ∧ w.1 12 0 2 = iN n) ∧ ∀ k, k < n → (w.1 9 (w.2.2 13 0 k) 1 = iN (A k 1) ∧ w.1 9 (w.2.2 13 0 k) 2 = iN (A k 2) ∧ w.1 9 (w.2.2 13 0 k) 4 = iN (A k 4)) ∧ sml (A k)
def mRowsN (n : Nat) (A : Nat → Nat → Nat) (v : z_W) : Prop := (n ≤ 24 ∧ v.1 0 0 4 = iN n) ∧ ∀ k, k < n → (v.1 2 0 (10 * k) = iN (A k 1) ∧ v.1 2 0 (10 * k + 1) = iN (A k 2) ∧ v.1 2 0 (10 * k + 3) = iN (A k 4)) ∧ sml (A k)
theorem k_bef {n i f : Nat} {A : Nat → Nat → Nat} {w : z_W} {Q : z_W → Option z_V → Prop} (hr : cRows n A w) (hi : i < n) (hf : f < n) (hq : Q w (some (zI (if nBef (A i) (A f) = true then 1 else 0)))) : z_C sC zM zCr kS_isBefore (0, [some (zR 9 (w.2.2 13 0 i)), some (zR 9 (w.2.2 13 0 f))], [], w) Q := by
  obtain ⟨⟨a1, a2, a4⟩, as⟩ := hr.2 i hi
  obtain ⟨⟨b1, b2, b4⟩, bs⟩ := hr.2 f hf
  refine k_isBefore ?_
  rw [a1, a2, a4, b1, b2, b4, iB_n as bs]
  exact hq
theorem m_bef {n i f : Nat} {A : Nat → Nat → Nat} {v : z_W} {Q : z_W → Option z_V → Prop} (hr : mRowsN n A v) (hi : i < n) (hf : f < n) (hq : Q v (some (zI (if nBef (A i) (A f) = true then 1 else 0)))) : mRun kX_isBefore (0, [some (zR 0 0), some (zI (iN i)), some (zI (iN f)), none, none, none, none], [], v) Q := by
  obtain ⟨⟨a1, a2, a4⟩, as⟩ := hr.2 i hi
  obtain ⟨⟨b1, b2, b4⟩, bs⟩ := hr.2 f hf
  have := hr.1.1
  refine m_isBefore (by omega) (by omega) ?_
  rw [a1, a2, a4, b1, b2, b4, iB_n as bs]
  exact hq
theorem k_pend_loop {n : Nat} {A : Nat → Nat → Nat} {w : z_W} {Q : z_W → Option z_V → Prop} (hr : cRows n A w) (hq : Q w (some (refJ w (chF (fun i => decide (A i 2 = 3)) A n)))) : ∀ (d i : Nat), i + d = n →
    z_C sC zM zCr kS_firstPending (4, [some (zR 12 0), some (refJ w (chF (fun i => decide (A i 2 = 3)) A i)), some (zI (iN i))], [], w) Q := by
  obtain ⟨⟨hn2, hn⟩, hJ⟩ := hr
  intro d
  induction d with
  | zero =>
    intro i hi
    have e : i = n := by omega
    subst e
    refine z_C.go 4 rfl ?_
    refine z_C.if (fun h => ?_) (fun h => ?_)
    · refine z_C.go 1 rfl ?_
      exact z_C.ret rfl rfl hq
    · have h : ¬ w.1 12 0 2 ≤ iN i := h
      rw [hn, iN_le (by omega) (by omega)] at h
      omega
  | succ d ih =>
    intro i hi
    have e : iN i + 1 = iN (i + 1) := iN_add i 1
    have hin : z_in (iN i) 20 = true := iN_in (by omega) (by omega)
    have hnat : (iN i).toNatClampNeg = i := iN_nat (by omega)
    have k9 := ih (i + 1) (by omega)
    obtain ⟨⟨a1, a2, a4⟩, as⟩ := hJ i (by omega)
    refine z_C.go 4 rfl ?_
    refine z_C.if (fun h => ?_) (fun h => ?_)
    · have h : w.1 12 0 2 ≤ iN i := h
      rw [hn, iN_le (by omega) (by omega)] at h
      omega
    refine z_C.go 3 rfl ?_
    refine z_C.go1 rfl (if_pos ⟨rfl, hin⟩) ?_
    refine z_C.go 3 rfl ?_
    refine z_C.if (fun h => ?_) (fun h => ?_)
    · have h : w.1 9 (w.2.2 13 0 (iN i).toNatClampNeg) 2 = 3 := h
      rw [hnat, a2] at h
      have h3 : A i 2 = 3 := (iN_inj (b := 3) as.2.1 (by decide)).mp h
      have hm : (fun i => decide (A i 2 = 3)) i = true := by simp [h3]
      cases hc : chF (fun i => decide (A i 2 = 3)) A i with
      | none =>
        rw [chF_new hc hm, ← e] at k9
        refine z_C.go 5 rfl ?_
        refine z_C.go1 rfl (if_pos ⟨rfl, hin⟩) ?_
        refine z_C.go 3 rfl ?_
        rw [hnat]
        exact k9
      | some f =>
        have hf := (chF_lt i f hc).1
        refine z_C.go 5 rfl ?_
        refine z_C.go1 rfl (if_pos ⟨rfl, hin⟩) ?_
        refine z_C.go 1 rfl ?_
        rw [hnat]
        refine z_C.call rfl rfl (k_bef (i := i) (f := f) (Q := fun w' r => w' = w ∧ r = some (zI (if nBef (A i) (A f) = true then 1 else 0))) ⟨⟨hn2, hn⟩, hJ⟩ (by omega) (by omega) ⟨rfl, rfl⟩) (fun w' r h => ?_)
        obtain ⟨rfl, rfl⟩ := h
        by_cases hb : nBef (A i) (A f) = true
        · rw [chF_bef hc hm hb, ← e] at k9
          rw [if_pos hb]
          refine z_C.go 4 rfl ?_
          refine z_C.go1 rfl (if_pos ⟨rfl, hin⟩) ?_
          refine z_C.go 3 rfl ?_
          rw [hnat]
          exact k9
        · rw [chF_old hc (fun h => hb h.2), ← e] at k9
          rw [if_neg hb]
          refine z_C.go 3 rfl ?_
          exact k9
    · have h : ¬ w.1 9 (w.2.2 13 0 (iN i).toNatClampNeg) 2 = 3 := h
      rw [hnat, a2] at h
      have h3 : ¬ A i 2 = 3 := fun h9 => h (by rw [h9]; rfl)
      have hm : ¬ (fun i => decide (A i 2 = 3)) i = true := by simp [h3]
      refine z_C.go 2 rfl ?_
      cases hc : chF (fun i => decide (A i 2 = 3)) A i with
      | none =>
        rw [chF_none hc hm, ← e] at k9
        exact k9
      | some f =>
        rw [chF_old hc (fun h => hm h.1), ← e] at k9
        exact k9
theorem k_pend {n : Nat} {A : Nat → Nat → Nat} {w : z_W} {Q : z_W → Option z_V → Prop} (hr : cRows n A w) (hq : Q w (some (refJ w (chF (fun i => decide (A i 2 = 3)) A n)))) : z_C sC zM zCr kS_firstPending (0, [some (zR 12 0), none, none], [], w) Q := by
  refine z_C.go 4 rfl ?_
  exact k_pend_loop hr hq n 0 (by omega)
theorem k_proc_loop {w : z_W} {Q : z_W → Option z_V → Prop} {n : Nat} (hn : w.1 12 0 2 = iN n) (hn2 : n ≤ 20) : ∀ (d i : Nat), i + d = n → Q w (some (refJ w (fndF (fun j => cJ w j 2) 5 d i))) →
    z_C sC zM zCr kS_processing (2, [some (zR 12 0), some (zI (iN i))], [], w) Q := by
  intro d
  induction d with
  | zero =>
    intro i hi hq
    refine z_C.go 4 rfl ?_
    refine z_C.if (fun h => ?_) (fun h => ?_)
    · refine z_C.go 1 rfl ?_
      exact z_C.ret rfl rfl hq
    · have h : ¬ w.1 12 0 2 ≤ iN i := h
      rw [hn, iN_le (by omega) (by omega)] at h
      omega
  | succ d ih =>
    intro i hi hq
    unfold fndF at hq
    refine z_C.go 4 rfl ?_
    refine z_C.if (fun h => ?_) (fun h => ?_)
    · have h : w.1 12 0 2 ≤ iN i := h
      rw [hn, iN_le (by omega) (by omega)] at h
      omega
    have hin : z_in (iN i) 20 = true := iN_in (by omega) (by omega)
    have hnat : (iN i).toNatClampNeg = i := iN_nat (by omega)
    refine z_C.go 3 rfl ?_
    refine z_C.go1 rfl (if_pos ⟨rfl, hin⟩) ?_
    refine z_C.go 3 rfl ?_
    refine z_C.if (fun h => ?_) (fun h => ?_)
    · have h : w.1 9 (w.2.2 13 0 (iN i).toNatClampNeg) 2 = 5 := h
      rw [hnat] at h
      rw [if_pos h] at hq
      refine z_C.go 3 rfl ?_
      refine z_C.go1 rfl (if_pos ⟨rfl, hin⟩) ?_
      refine z_C.ret rfl rfl ?_
      rw [hnat]
      exact hq
    · have h : ¬ w.1 9 (w.2.2 13 0 (iN i).toNatClampNeg) 2 = 5 := h
      rw [hnat] at h
      rw [if_neg h] at hq
      refine z_C.go 2 rfl ?_
      have e : iN i + 1 = iN (i + 1) := iN_add i 1
      have k9 := ih (i + 1) (by omega) hq
      rw [← e] at k9
      exact k9
theorem k_proc {w : z_W} {Q : z_W → Option z_V → Prop} {n : Nat} (hn : w.1 12 0 2 = iN n) (hn2 : n ≤ 20) (hq : Q w (some (refJ w (fndF (fun j => cJ w j 2) 5 n 0)))) : z_C sC zM zCr kS_processing (0, [some (zR 12 0), none], [], w) Q := by
  refine z_C.go 2 rfl ?_
  exact k_proc_loop hn hn2 n 0 (by omega) hq
theorem idx_ng {f : Nat} (hf : f < 2147483648) : ¬ iN f < 0 := by
  intro h
  have := (iN_lt (a := f) (b := 0) hf (by decide)).mp h
  omega
theorem m_chosen_loop {n : Nat} {A : Nat → Nat → Nat} {v : z_W} {Q : z_W → Option z_V → Prop} (hr : mRowsN n A v) (hq : Q v (some (zI (idxJ (chF (fun i => decide (A i 2 = 5 ∨ A i 2 = 3)) A n))))) : ∀ (d i : Nat) (x y : Option z_V), i + d = n →
    mRun kX_chosen (4, [some (zR 0 0), some (zI (idxJ (chF (fun i => decide (A i 2 = 5 ∨ A i 2 = 3)) A i))), some (zI (iN i)), x, y], [], v) Q := by
  obtain ⟨⟨hn2, hn⟩, hJ⟩ := hr
  intro d
  induction d with
  | zero =>
    intro i x y hi
    have e : i = n := by omega
    subst e
    refine z_C.go 4 rfl ?_
    refine z_C.if (fun h => ?_) (fun h => ?_)
    · refine z_C.go 1 rfl ?_
      exact z_C.ret rfl rfl hq
    · have h : ¬ v.1 0 0 4 ≤ iN i := h
      rw [hn, iN_le (by omega) (by omega)] at h
      omega
  | succ d ih =>
    intro i x y hi
    have e : iN i + 1 = iN (i + 1) := iN_add i 1
    obtain ⟨-, i1, n1⟩ := j_ix (k := i) (f := 1) (by omega) (by decide)
    have k9 := fun x y => ih (i + 1) x y (by omega)
    obtain ⟨⟨a1, a2, a4⟩, as⟩ := hJ i (by omega)
    refine z_C.go 4 rfl ?_
    refine z_C.if (fun h => ?_) (fun h => ?_)
    · have h : v.1 0 0 4 ≤ iN i := h
      rw [hn, iN_le (by omega) (by omega)] at h
      omega
    refine z_C.go 7 rfl ?_
    refine z_C.go1 rfl (if_pos ⟨rfl, i1⟩) ?_
    refine z_C.go 4 rfl ?_
    refine z_C.if (fun h => ?_) (fun h => ?_)
    · have h : v.1 2 0 (10 * iN i + iN 1).toNatClampNeg = 5 := h
      rw [n1, a2] at h
      have h3 : A i 2 = 5 := (iN_inj (b := 5) as.2.1 (by decide)).mp h
      have hm : (fun i => decide (A i 2 = 5 ∨ A i 2 = 3)) i = true := by simp [h3]
      cases hc : chF (fun i => decide (A i 2 = 5 ∨ A i 2 = 3)) A i with
      | none =>
        rw [chF_new hc hm, ← e] at k9
        refine z_C.go 12 rfl ?_
        exact k9 _ _
      | some f =>
        have hf := (chF_lt i f hc).1
        refine z_C.go 7 rfl ?_
        refine z_C.if (fun h => absurd h (idx_ng (by omega))) (fun h => ?_)
        refine z_C.go 3 rfl ?_
        refine z_C.call rfl rfl (m_bef (i := i) (f := f) (Q := fun w' r => w' = v ∧ r = some (zI (if nBef (A i) (A f) = true then 1 else 0))) ⟨⟨hn2, hn⟩, hJ⟩ (by omega) (by omega) ⟨rfl, rfl⟩) (fun w' r h => ?_)
        obtain ⟨rfl, rfl⟩ := h
        by_cases hb : nBef (A i) (A f) = true
        · rw [chF_bef hc hm hb, ← e] at k9
          rw [if_pos hb]
          refine z_C.go 6 rfl ?_
          exact k9 _ _
        · rw [chF_old hc (fun h => hb h.2), ← e] at k9
          rw [if_neg hb]
          refine z_C.go 5 rfl ?_
          exact k9 _ _
    · have h : ¬ v.1 2 0 (10 * iN i + iN 1).toNatClampNeg = 5 := h
      rw [n1, a2] at h
      have h5 : ¬ A i 2 = 5 := fun h9 => h (by rw [h9]; rfl)
      refine z_C.go 3 rfl ?_
      refine z_C.if (fun h => ?_) (fun h => ?_)
      · have h : v.1 2 0 (10 * iN i + iN 1).toNatClampNeg = 3 := h
        rw [n1, a2] at h
        have h3 : A i 2 = 3 := (iN_inj (b := 3) as.2.1 (by decide)).mp h
        have hm : (fun i => decide (A i 2 = 5 ∨ A i 2 = 3)) i = true := by simp [h3]
        cases hc : chF (fun i => decide (A i 2 = 5 ∨ A i 2 = 3)) A i with
        | none =>
          rw [chF_new hc hm, ← e] at k9
          refine z_C.go 12 rfl ?_
          exact k9 _ _
        | some f =>
          have hf := (chF_lt i f hc).1
          refine z_C.go 7 rfl ?_
          refine z_C.if (fun h => absurd h (idx_ng (by omega))) (fun h => ?_)
          refine z_C.go 3 rfl ?_
          refine z_C.call rfl rfl (m_bef (i := i) (f := f) (Q := fun w' r => w' = v ∧ r = some (zI (if nBef (A i) (A f) = true then 1 else 0))) ⟨⟨hn2, hn⟩, hJ⟩ (by omega) (by omega) ⟨rfl, rfl⟩) (fun w' r h => ?_)
          obtain ⟨rfl, rfl⟩ := h
          by_cases hb : nBef (A i) (A f) = true
          · rw [chF_bef hc hm hb, ← e] at k9
            rw [if_pos hb]
            refine z_C.go 6 rfl ?_
            exact k9 _ _
          · rw [chF_old hc (fun h => hb h.2), ← e] at k9
            rw [if_neg hb]
            refine z_C.go 5 rfl ?_
            exact k9 _ _
      · have h : ¬ v.1 2 0 (10 * iN i + iN 1).toNatClampNeg = 3 := h
        rw [n1, a2] at h
        have h3 : ¬ A i 2 = 3 := fun h9 => h (by rw [h9]; rfl)
        have hm : ¬ (fun i => decide (A i 2 = 5 ∨ A i 2 = 3)) i = true := by simp [h3, h5]
        refine z_C.go 8 rfl ?_
        cases hc : chF (fun i => decide (A i 2 = 5 ∨ A i 2 = 3)) A i with
        | none =>
          rw [chF_none hc hm, ← e] at k9
          exact k9 _ _
        | some f =>
          rw [chF_old hc (fun h => hm h.1), ← e] at k9
          exact k9 _ _
theorem m_chosen {n : Nat} {A : Nat → Nat → Nat} {v : z_W} {Q : z_W → Option z_V → Prop} (hr : mRowsN n A v) (hq : Q v (some (zI (idxJ (chF (fun i => decide (A i 2 = 5 ∨ A i 2 = 3)) A n))))) : mRun kX_chosen (0, [some (zR 0 0), none, none, none, none], [], v) Q := by
  refine z_C.go 4 rfl ?_
  exact m_chosen_loop hr hq n 0 _ _ (by omega)
