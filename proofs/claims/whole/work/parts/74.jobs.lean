/-! a job's sheets, on both sides -/
def iParts (a s : Int32) : Int32 := if 1 ≤ s then (a + s - 1) / s else 0
def iSides (sd bk : Int32) : Int32 := if bk = 1 then 2 else if sd = 0 then 1 else 2
def iCopy (up sd bk pg : Int32) : Int32 := if bk = 1 then iParts pg 4 else iParts (iParts pg up) (iSides sd bk)
theorem k_parts {a s : Int32} {w : z_W} {Q : z_W → Option z_V → Prop} (hq : Q w (some (zI (iParts a s)))) : z_C sC zM zCr kJ_parts (0, [some (zI a), some (zI s)], [], w) Q := by
  unfold iParts at hq
  refine z_C.go 3 rfl ?_
  refine z_C.if (fun h => ?_) (fun h => ?_)
  · have h : 1 ≤ s := h
    rw [if_pos h] at hq
    have h0 : ¬ s = 0 := fun h9 => by rw [h9] at h; exact absurd h (by decide)
    refine z_C.go 6 rfl ?_
    refine z_C.go1 rfl (if_neg h0) ?_
    exact z_C.ret rfl rfl hq
  · have h : ¬ 1 ≤ s := h
    rw [if_neg h] at hq
    refine z_C.go 2 rfl ?_
    exact z_C.ret rfl rfl hq
theorem k_sidesOfSheet {j : Nat} {w : z_W} {Q : z_W → Option z_V → Prop} (hq : Q w (some (zI (iSides (w.1 9 j 6) (w.1 9 j 7))))) : z_C sC zM zCr kJ_sidesOfSheet (0, [some (zR 9 j)], [], w) Q := by
  unfold iSides at hq
  refine z_C.go 4 rfl ?_
  refine z_C.if (fun h => ?_) (fun h => ?_)
  · have h : w.1 9 j 7 = 1 := h
    rw [if_pos h] at hq
    refine z_C.go 2 rfl ?_
    exact z_C.ret rfl rfl hq
  · have h : ¬ w.1 9 j 7 = 1 := h
    rw [if_neg h] at hq
    refine z_C.go 3 rfl ?_
    refine z_C.if (fun h => ?_) (fun h => ?_)
    · have h : w.1 9 j 6 = 0 := h
      rw [if_pos h] at hq
      refine z_C.go 1 rfl ?_
      exact z_C.ret rfl rfl hq
    · have h : ¬ w.1 9 j 6 = 0 := h
      rw [if_neg h] at hq
      refine z_C.go 2 rfl ?_
      exact z_C.ret rfl rfl hq
theorem k_sheetsOfCopy {j : Nat} {w : z_W} {Q : z_W → Option z_V → Prop} (hq : Q w (some (zI (iCopy (w.1 9 j 5) (w.1 9 j 6) (w.1 9 j 7) (w.1 9 j 8))))) : z_C sC zM zCr kJ_sheetsOfCopy (0, [some (zR 9 j)], [], w) Q := by
  unfold iCopy at hq
  refine z_C.go 4 rfl ?_
  refine z_C.if (fun h => ?_) (fun h => ?_)
  · have h : w.1 9 j 7 = 1 := h
    rw [if_pos h] at hq
    refine z_C.go 3 rfl ?_
    refine z_C.call rfl rfl (k_parts (Q := fun w' r => w' = w ∧ r = some (zI (iParts (w.1 9 j 8) 4))) ⟨rfl, rfl⟩) (fun w' r h => ?_)
    obtain ⟨rfl, rfl⟩ := h
    refine z_C.go 1 rfl ?_
    exact z_C.ret rfl rfl hq
  · have h : ¬ w.1 9 j 7 = 1 := h
    rw [if_neg h] at hq
    refine z_C.go 4 rfl ?_
    refine z_C.call rfl rfl (k_parts (Q := fun w' r => w' = w ∧ r = some (zI (iParts (w.1 9 j 8) (w.1 9 j 5)))) ⟨rfl, rfl⟩) (fun w' r h => ?_)
    obtain ⟨rfl, rfl⟩ := h
    refine z_C.go 1 rfl ?_
    refine z_C.call rfl rfl (k_sidesOfSheet (Q := fun w'' r => w'' = w' ∧ r = some (zI (iSides (w'.1 9 j 6) (w'.1 9 j 7)))) ⟨rfl, rfl⟩) (fun w'' r h => ?_)
    obtain ⟨rfl, rfl⟩ := h
    refine z_C.call rfl rfl (k_parts (Q := fun w' r => w' = w'' ∧ r = some (zI (iParts (iParts (w''.1 9 j 8) (w''.1 9 j 5)) (iSides (w''.1 9 j 6) (w''.1 9 j 7))))) ⟨rfl, rfl⟩) (fun w' r h => ?_)
    obtain ⟨rfl, rfl⟩ := h
    exact z_C.ret rfl rfl hq
theorem k_sheets {j : Nat} {w : z_W} {Q : z_W → Option z_V → Prop} (hq : Q w (some (zI (w.1 9 j 3 * iCopy (w.1 9 j 5) (w.1 9 j 6) (w.1 9 j 7) (w.1 9 j 8))))) : z_C sC zM zCr kJ_sheets (0, [some (zR 9 j)], [], w) Q := by
  refine z_C.go 3 rfl ?_
  refine z_C.call rfl rfl (k_sheetsOfCopy (j := j) (Q := fun w' r => w' = w ∧ r = some (zI (iCopy (w.1 9 j 5) (w.1 9 j 6) (w.1 9 j 7) (w.1 9 j 8)))) ⟨rfl, rfl⟩) (fun w' r h => ?_)
  obtain ⟨rfl, rfl⟩ := h
  refine z_C.go 1 rfl ?_
  exact z_C.ret rfl rfl hq
def iFact (f : Nat → Int32) (x : Int32) : Int32 := if x = iN 0 then f 2 else if x = iN 1 then f 3 else if x = iN 2 then f 4 else if x = iN 3 then f 5 else if x = iN 4 then f 6 else if x = iN 5 then f 7 else if x = iN 6 then f 8 else if x = iN 7 then f 9 else f 3 * iCopy (f 5) (f 6) (f 7) (f 8)
theorem k_fact {j n : Nat} {w : z_W} {Q : z_W → Option z_V → Prop} (hn : n ≤ 8) (hq : Q w (some (zI (iFact (w.1 9 j) (iN n))))) : z_C sC zM zCr kJ_fact (0, [some (zR 9 j), some (zI (iN n))], [], w) Q := by
  refine z_C.go 1 rfl ?_
  match n, hn, hq with
  | 0, _, hq => refine z_C.go 3 rfl ?_; exact z_C.ret rfl rfl hq
  | 1, _, hq => refine z_C.go 3 rfl ?_; exact z_C.ret rfl rfl hq
  | 2, _, hq => refine z_C.go 3 rfl ?_; exact z_C.ret rfl rfl hq
  | 3, _, hq => refine z_C.go 3 rfl ?_; exact z_C.ret rfl rfl hq
  | 4, _, hq => refine z_C.go 3 rfl ?_; exact z_C.ret rfl rfl hq
  | 5, _, hq => refine z_C.go 3 rfl ?_; exact z_C.ret rfl rfl hq
  | 6, _, hq => refine z_C.go 3 rfl ?_; exact z_C.ret rfl rfl hq
  | 7, _, hq => refine z_C.go 3 rfl ?_; exact z_C.ret rfl rfl hq
  | 8, _, hq =>
    refine z_C.go 2 rfl ?_
    refine z_C.call rfl rfl (k_sheets (j := j) (Q := fun w' r => w' = w ∧ r = some (zI (w.1 9 j 3 * iCopy (w.1 9 j 5) (w.1 9 j 6) (w.1 9 j 7) (w.1 9 j 8)))) ⟨rfl, rfl⟩) (fun w' r h => ?_)
    obtain ⟨rfl, rfl⟩ := h
    exact z_C.ret rfl rfl hq
  | n + 9, hn, _ => omega
def iHas (pg x : Int32) : Int32 := if 0 ≤ x ∧ x < pg ∧ x < 6 then 1 else 0
theorem k_hasPage {j : Nat} {x : Int32} {w : z_W} {Q : z_W → Option z_V → Prop} (hq : Q w (some (zI (iHas (w.1 9 j 8) x)))) : z_C sC zM zCr kJ_hasPage (0, [some (zR 9 j), some (zI x)], [], w) Q := by
  unfold iHas at hq
  refine z_C.go 2 rfl ?_
  refine z_C.if (fun h => ?_) (fun h => ?_)
  · have h : x < 0 := h
    rw [if_neg (fun h9 => absurd h (Int32.not_lt.mpr h9.1))] at hq
    refine z_C.go 1 rfl ?_
    exact z_C.ret rfl rfl hq
  · have h0 : 0 ≤ x := Int32.not_lt.mp h
    refine z_C.go 4 rfl ?_
    refine z_C.if (fun h => ?_) (fun h => ?_)
    · have h : w.1 9 j 8 ≤ x := h
      rw [if_neg (fun h9 => absurd h9.2.1 (Int32.not_lt.mpr h))] at hq
      refine z_C.go 1 rfl ?_
      exact z_C.ret rfl rfl hq
    · have h1 : x < w.1 9 j 8 := Int32.not_le.mp h
      refine z_C.go 3 rfl ?_
      refine z_C.if (fun h => ?_) (fun h => ?_)
      · have h : 6 ≤ x := h
        rw [if_neg (fun h9 => absurd h9.2.2 (Int32.not_lt.mpr h))] at hq
        refine z_C.go 1 rfl ?_
        exact z_C.ret rfl rfl hq
      · have h2 : x < 6 := Int32.not_le.mp h
        rw [if_pos ⟨h0, h1, h2⟩] at hq
        refine z_C.go 2 rfl ?_
        exact z_C.ret rfl rfl hq
/-! the reference -/
theorem j_ix {k f : Nat} (hk : k ≤ 25) (hf : f < 10) : 10 * iN k + iN f = iN (10 * k + f) ∧ z_in (10 * iN k + iN f) 260 = true ∧ (10 * iN k + iN f).toNatClampNeg = 10 * k + f := by
  have e : 10 * iN k + iN f = iN (10 * k + f) := by
    rw [← iN_add, ← iN_mul]
    rfl
  refine ⟨e, ?_, ?_⟩
  · rw [e]
    exact iN_in (by omega) (by omega)
  · rw [e]
    exact iN_nat (by omega)
def mSides (up pg : Int32) : Int32 := (pg + up - 1) / up
def mCopy (up sd bk pg : Int32) : Int32 := if bk = 1 then (pg + 3) / 4 else if sd = 0 then mSides up pg else (mSides up pg + 1) / 2
theorem m_sides {k : Nat} {v : z_W} {Q : z_W → Option z_V → Prop} (hk : k ≤ 25) (hu : ¬ v.1 2 0 (10 * k + 4) = 0) (hq : Q v (some (zI (mSides (v.1 2 0 (10 * k + 4)) (v.1 2 0 (10 * k + 7)))))) : mRun kX_sides (0, [some (zR 0 0), some (zI (iN k)), none], [], v) Q := by
  obtain ⟨-, i4, n4⟩ := j_ix (f := 4) hk (by omega)
  obtain ⟨-, i7, n7⟩ := j_ix (f := 7) hk (by omega)
  unfold mSides at hq
  rw [← n4, ← n7] at hq
  rw [← n4] at hu
  refine z_C.go 7 rfl ?_
  refine z_C.go1 rfl (if_pos ⟨rfl, i4⟩) ?_
  refine z_C.go 8 rfl ?_
  refine z_C.go1 rfl (if_pos ⟨rfl, i7⟩) ?_
  refine z_C.go 5 rfl ?_
  refine z_C.go1 rfl (if_neg hu) ?_
  exact z_C.ret rfl rfl hq
theorem m_sheetsOf {k : Nat} {v : z_W} {Q : z_W → Option z_V → Prop} (hk : k ≤ 25) (hu : ¬ v.1 2 0 (10 * k + 4) = 0) (hq : Q v (some (zI (mCopy (v.1 2 0 (10 * k + 4)) (v.1 2 0 (10 * k + 5)) (v.1 2 0 (10 * k + 6)) (v.1 2 0 (10 * k + 7)))))) : mRun kX_sheetsOf (0, [some (zR 0 0), some (zI (iN k))], [], v) Q := by
  obtain ⟨-, i5, n5⟩ := j_ix (f := 5) hk (by omega)
  obtain ⟨-, i6, n6⟩ := j_ix (f := 6) hk (by omega)
  obtain ⟨-, i7, n7⟩ := j_ix (f := 7) hk (by omega)
  unfold mCopy at hq
  refine z_C.go 7 rfl ?_
  refine z_C.go1 rfl (if_pos ⟨rfl, i6⟩) ?_
  refine z_C.go 2 rfl ?_
  refine z_C.if (fun h => ?_) (fun h => ?_)
  · have h : v.1 2 0 (10 * iN k + iN 6).toNatClampNeg = 1 := h
    rw [n6] at h
    rw [if_pos h] at hq
    rw [← n7] at hq
    refine z_C.go 7 rfl ?_
    refine z_C.go1 rfl (if_pos ⟨rfl, i7⟩) ?_
    refine z_C.go 5 rfl ?_
    exact z_C.ret rfl rfl hq
  · have h : ¬ v.1 2 0 (10 * iN k + iN 6).toNatClampNeg = 1 := h
    rw [n6] at h
    rw [if_neg h] at hq
    refine z_C.go 7 rfl ?_
    refine z_C.go1 rfl (if_pos ⟨rfl, i5⟩) ?_
    refine z_C.go 1 rfl ?_
    refine z_C.if (fun h => ?_) (fun h => ?_)
    · have h : v.1 2 0 (10 * iN k + iN 5).toNatClampNeg = 0 := h
      rw [n5] at h
      rw [if_pos h] at hq
      refine z_C.go 2 rfl ?_
      refine z_C.call rfl rfl (m_sides (k := k) (Q := fun w' r => w' = v ∧ r = some (zI (mSides (v.1 2 0 (10 * k + 4)) (v.1 2 0 (10 * k + 7))))) hk hu ⟨rfl, rfl⟩) (fun w' r h => ?_)
      obtain ⟨rfl, rfl⟩ := h
      refine z_C.go 1 rfl ?_
      exact z_C.ret rfl rfl hq
    · have h : ¬ v.1 2 0 (10 * iN k + iN 5).toNatClampNeg = 0 := h
      rw [n5] at h
      rw [if_neg h] at hq
      refine z_C.go 2 rfl ?_
      refine z_C.call rfl rfl (m_sides (k := k) (Q := fun w' r => w' = v ∧ r = some (zI (mSides (v.1 2 0 (10 * k + 4)) (v.1 2 0 (10 * k + 7))))) hk hu ⟨rfl, rfl⟩) (fun w' r h => ?_)
      obtain ⟨rfl, rfl⟩ := h
      refine z_C.go 4 rfl ?_
      exact z_C.ret rfl rfl hq
/-- a job's fields, as whole numbers: 1 number, 2 state, 3 copies, 4 priority, 5 up, 6 sides, 7 booklet, 8 pages -/
def aJob (a : Nat → Nat) (nx : Nat) : Prop := (1 ≤ a 1 ∧ a 1 < nx) ∧ (a 2 = 3 ∨ a 2 = 4 ∨ a 2 = 5 ∨ a 2 = 7 ∨ a 2 = 9) ∧ (1 ≤ a 3 ∧ a 3 ≤ 3) ∧ (1 ≤ a 4 ∧ a 4 ≤ 100) ∧ (a 5 = 1 ∨ a 5 = 2 ∨ a 5 = 4) ∧ a 6 ≤ 2 ∧ a 7 ≤ 1 ∧ (a 7 = 1 → a 5 = 1) ∧ (1 ≤ a 8 ∧ a 8 ≤ 6)
def nCopy (up sd bk pg : Nat) : Nat := if bk = 1 then (pg + 3) / 4 else if sd = 0 then (pg + up - 1) / up else ((pg + up - 1) / up + 1) / 2
def copyChk (up sd bk pg : Nat) : Bool := decide (up = 0) || decide (up = 3) || (decide (iCopy (iN up) (iN sd) (iN bk) (iN pg) = iN (nCopy up sd bk pg)) && decide (mCopy (iN up) (iN sd) (iN bk) (iN pg) = iN (nCopy up sd bk pg)) && (decide (pg = 0) || decide (1 ≤ nCopy up sd bk pg)) && decide (nCopy up sd bk pg ≤ 6))
theorem copy_chk : ((List.range 5).all fun up => (List.range 3).all fun sd => (List.range 2).all fun bk => (List.range 7).all fun pg => copyChk up sd bk pg) = true := by decide +kernel
theorem copy_all (up : Nat) (h1 : up < 5) (sd : Nat) (h2 : sd < 3) (bk : Nat) (h3 : bk < 2) (pg : Nat) (h4 : pg < 7) (h5 : up ≠ 0) (h6 : up ≠ 3) : iCopy (iN up) (iN sd) (iN bk) (iN pg) = iN (nCopy up sd bk pg) ∧ mCopy (iN up) (iN sd) (iN bk) (iN pg) = iN (nCopy up sd bk pg) ∧ (1 ≤ pg → 1 ≤ nCopy up sd bk pg) ∧ nCopy up sd bk pg ≤ 6 := by
  have h := copy_chk
  have h := List.all_eq_true.mp h up (List.mem_range.mpr h1)
  have h := List.all_eq_true.mp h sd (List.mem_range.mpr h2)
  have h := List.all_eq_true.mp h bk (List.mem_range.mpr h3)
  have h := List.all_eq_true.mp h pg (List.mem_range.mpr h4)
  unfold copyChk at h
  simp only [Bool.or_eq_true, Bool.and_eq_true, decide_eq_true_eq] at h
  rcases h with (h | h) | ⟨⟨⟨c1, c2⟩, c3⟩, c4⟩
  · exact absurd h h5
  · exact absurd h h6
  · exact ⟨c1, c2, fun h9 => by rcases c3 with c3 | c3; omega; exact c3, c4⟩
