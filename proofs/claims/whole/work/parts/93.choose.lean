/-! which job comes before another -/
def iLt (p q a b : Int32) : Bool := if p = q then decide (a < b) else decide (q < p)
def iB (s t p q a b : Int32) : Bool := if s = 5 then (if t = 5 then iLt p q a b else true) else if t = 5 then false else iLt p q a b
def nLt (a b : Nat → Nat) : Bool := if a 4 = b 4 then decide (a 1 < b 1) else decide (b 4 < a 4)
def nBef (a b : Nat → Nat) : Bool := if a 2 = 5 then (if b 2 = 5 then nLt a b else true) else if b 2 = 5 then false else nLt a b
def sml (a : Nat → Nat) : Prop := a 1 < 2147483648 ∧ a 2 < 2147483648 ∧ a 4 < 2147483648
theorem iB_n {a b : Nat → Nat} (ha : sml a) (hb : sml b) : iB (iN (a 2)) (iN (b 2)) (iN (a 4)) (iN (b 4)) (iN (a 1)) (iN (b 1)) = nBef a b := by
  have e1 : iN (a 2) = 5 ↔ a 2 = 5 := iN_inj (b := 5) ha.2.1 (by decide)
  have e2 : iN (b 2) = 5 ↔ b 2 = 5 := iN_inj (b := 5) hb.2.1 (by decide)
  unfold iB nBef iLt nLt
  simp only [e1, e2, iN_inj ha.2.2 hb.2.2, iN_lt ha.1 hb.1, iN_lt hb.2.2 ha.2.2]
theorem k_isBefore {a b : Nat} {w : z_W} {Q : z_W → Option z_V → Prop} (hq : Q w (some (zI (if iB (w.1 9 a 2) (w.1 9 b 2) (w.1 9 a 4) (w.1 9 b 4) (w.1 9 a 1) (w.1 9 b 1) = true then 1 else 0)))) : z_C sC zM zCr kS_isBefore (0, [some (zR 9 a), some (zR 9 b)], [], w) Q := by
  unfold iB iLt at hq
  refine z_C.go 4 rfl ?_
  refine z_C.if (fun h1 => ?_) (fun h1 => ?_)
  · have h1 : w.1 9 a 2 = 5 := h1
    refine z_C.go 6 rfl ?_
    refine z_C.if (fun h2 => ?_) (fun h2 => ?_)
    · have h2 : w.1 9 b 2 = 5 := h2
      rw [if_pos h1, if_pos h2] at hq
      refine z_C.go 8 rfl ?_
      refine z_C.if (fun h => ?_) (fun h => ?_)
      · have h : w.1 9 a 4 = w.1 9 b 4 := h
        rw [if_pos h] at hq
        refine z_C.go 5 rfl ?_
        refine z_C.if (fun h => ?_) (fun h => ?_)
        · have h : w.1 9 b 1 ≤ w.1 9 a 1 := h
          rw [if_neg (by rw [decide_eq_true_eq]; exact Int32.not_lt.mpr h)] at hq
          refine z_C.go 1 rfl ?_
          exact z_C.ret rfl rfl hq
        · have h : ¬ w.1 9 b 1 ≤ w.1 9 a 1 := h
          rw [if_pos (by rw [decide_eq_true_eq]; exact Int32.not_le.mp h)] at hq
          refine z_C.go 2 rfl ?_
          exact z_C.ret rfl rfl hq
      · have h : ¬ w.1 9 a 4 = w.1 9 b 4 := h
        rw [if_neg h] at hq
        refine z_C.go 5 rfl ?_
        refine z_C.if (fun h => ?_) (fun h => ?_)
        · have h : w.1 9 a 4 ≤ w.1 9 b 4 := h
          rw [if_neg (by rw [decide_eq_true_eq]; exact Int32.not_lt.mpr h)] at hq
          refine z_C.go 1 rfl ?_
          exact z_C.ret rfl rfl hq
        · have h : ¬ w.1 9 a 4 ≤ w.1 9 b 4 := h
          rw [if_pos (by rw [decide_eq_true_eq]; exact Int32.not_le.mp h)] at hq
          refine z_C.go 2 rfl ?_
          exact z_C.ret rfl rfl hq
    · have h2 : ¬ w.1 9 b 2 = 5 := h2
      rw [if_pos h1, if_neg h2] at hq
      refine z_C.go 6 rfl ?_
      refine z_C.if (fun h => ?_) (fun h => absurd h1 h)
      refine z_C.go 2 rfl ?_
      exact z_C.ret rfl rfl hq
  · have h1 : ¬ w.1 9 a 2 = 5 := h1
    refine z_C.go 5 rfl ?_
    refine z_C.if (fun h2 => ?_) (fun h2 => ?_)
    · have h2 : w.1 9 b 2 = 5 := h2
      rw [if_neg h1, if_pos h2] at hq
      refine z_C.go 7 rfl ?_
      refine z_C.if (fun h => absurd h h1) (fun h => ?_)
      refine z_C.go 1 rfl ?_
      exact z_C.ret rfl rfl hq
    · have h2 : ¬ w.1 9 b 2 = 5 := h2
      rw [if_neg h1, if_neg h2] at hq
      refine z_C.go 7 rfl ?_
      refine z_C.if (fun h => ?_) (fun h => ?_)
      · have h : w.1 9 a 4 = w.1 9 b 4 := h
        rw [if_pos h] at hq
        refine z_C.go 5 rfl ?_
        refine z_C.if (fun h => ?_) (fun h => ?_)
        · have h : w.1 9 b 1 ≤ w.1 9 a 1 := h
          rw [if_neg (by rw [decide_eq_true_eq]; exact Int32.not_lt.mpr h)] at hq
          refine z_C.go 1 rfl ?_
          exact z_C.ret rfl rfl hq
        · have h : ¬ w.1 9 b 1 ≤ w.1 9 a 1 := h
          rw [if_pos (by rw [decide_eq_true_eq]; exact Int32.not_le.mp h)] at hq
          refine z_C.go 2 rfl ?_
          exact z_C.ret rfl rfl hq
      · have h : ¬ w.1 9 a 4 = w.1 9 b 4 := h
        rw [if_neg h] at hq
        refine z_C.go 5 rfl ?_
        refine z_C.if (fun h => ?_) (fun h => ?_)
        · have h : w.1 9 a 4 ≤ w.1 9 b 4 := h
          rw [if_neg (by rw [decide_eq_true_eq]; exact Int32.not_lt.mpr h)] at hq
          refine z_C.go 1 rfl ?_
          exact z_C.ret rfl rfl hq
        · have h : ¬ w.1 9 a 4 ≤ w.1 9 b 4 := h
          rw [if_pos (by rw [decide_eq_true_eq]; exact Int32.not_le.mp h)] at hq
          refine z_C.go 2 rfl ?_
          exact z_C.ret rfl rfl hq
theorem m_isBefore {a b : Nat} {v : z_W} {Q : z_W → Option z_V → Prop} (ha : a ≤ 24) (hb : b ≤ 24) (hq : Q v (some (zI (if iB (v.1 2 0 (10 * a + 1)) (v.1 2 0 (10 * b + 1)) (v.1 2 0 (10 * a + 3)) (v.1 2 0 (10 * b + 3)) (v.1 2 0 (10 * a)) (v.1 2 0 (10 * b)) = true then 1 else 0)))) :
    mRun kX_isBefore (0, [some (zR 0 0), some (zI (iN a)), some (zI (iN b)), none, none, none, none], [], v) Q := by
  obtain ⟨-, ia1, na1⟩ := j_ix (k := a) (f := 1) (by omega) (by decide)
  obtain ⟨-, ib1, nb1⟩ := j_ix (k := b) (f := 1) (by omega) (by decide)
  obtain ⟨-, ia3, na3⟩ := j_ix (k := a) (f := 3) (by omega) (by decide)
  obtain ⟨-, ib3, nb3⟩ := j_ix (k := b) (f := 3) (by omega) (by decide)
  have ea : 10 * iN a = iN (10 * a) := iN_mul 10 a
  have eb : 10 * iN b = iN (10 * b) := iN_mul 10 b
  have ia0 : z_in (10 * iN a) 260 = true := by rw [ea]; exact iN_in (by omega) (by omega)
  have na0 : (10 * iN a).toNatClampNeg = 10 * a := by rw [ea]; exact iN_nat (by omega)
  have ib0 : z_in (10 * iN b) 260 = true := by rw [eb]; exact iN_in (by omega) (by omega)
  have nb0 : (10 * iN b).toNatClampNeg = 10 * b := by rw [eb]; exact iN_nat (by omega)
  rw [← na1, ← nb1, ← na3, ← nb3, ← na0, ← nb0] at hq
  unfold iB iLt at hq
  refine z_C.go 7 rfl ?_
  refine z_C.go1 rfl (if_pos ⟨rfl, ia1⟩) ?_
  refine z_C.go 8 rfl ?_
  refine z_C.go1 rfl (if_pos ⟨rfl, ib1⟩) ?_
  refine z_C.go 4 rfl ?_
  refine z_C.if (fun h1 => ?_) (fun h1 => ?_)
  · have h1 : v.1 2 0 (10 * iN a + iN 1).toNatClampNeg = 5 := h1
    rw [if_pos h1] at hq
    refine z_C.go 5 rfl ?_
    refine z_C.if (fun h2 => ?_) (fun h2 => ?_)
    · have h2 : v.1 2 0 (10 * iN b + iN 1).toNatClampNeg = 5 := h2
      rw [if_pos h2] at hq
      refine z_C.go 10 rfl ?_
      refine z_C.go1 rfl (if_pos ⟨rfl, ia3⟩) ?_
      refine z_C.go 8 rfl ?_
      refine z_C.go1 rfl (if_pos ⟨rfl, ib3⟩) ?_
      refine z_C.go 4 rfl ?_
      refine z_C.if (fun h => ?_) (fun h => ?_)
      · have h : v.1 2 0 (10 * iN a + iN 3).toNatClampNeg = v.1 2 0 (10 * iN b + iN 3).toNatClampNeg := h
        rw [if_pos h] at hq
        refine z_C.go 5 rfl ?_
        refine z_C.go1 rfl (if_pos ⟨rfl, ia0⟩) ?_
        refine z_C.go 5 rfl ?_
        refine z_C.go1 rfl (if_pos ⟨rfl, ib0⟩) ?_
        refine z_C.go 1 rfl ?_
        refine z_C.if (fun h => ?_) (fun h => ?_)
        · rw [if_neg (by rw [decide_eq_true_eq]; exact Int32.not_lt.mpr h)] at hq
          refine z_C.go 1 rfl ?_
          exact z_C.ret rfl rfl hq
        · rw [if_pos (by rw [decide_eq_true_eq]; exact Int32.not_le.mp h)] at hq
          refine z_C.go 2 rfl ?_
          exact z_C.ret rfl rfl hq
      · have h : ¬ v.1 2 0 (10 * iN a + iN 3).toNatClampNeg = v.1 2 0 (10 * iN b + iN 3).toNatClampNeg := h
        rw [if_neg h] at hq
        refine z_C.go 3 rfl ?_
        refine z_C.if (fun h => ?_) (fun h => ?_)
        · rw [if_neg (by rw [decide_eq_true_eq]; exact Int32.not_lt.mpr h)] at hq
          refine z_C.go 2 rfl ?_
          exact z_C.ret rfl rfl hq
        · rw [if_pos (by rw [decide_eq_true_eq]; exact Int32.not_le.mp h)] at hq
          refine z_C.go 2 rfl ?_
          exact z_C.ret rfl rfl hq
    · have h2 : ¬ v.1 2 0 (10 * iN b + iN 1).toNatClampNeg = 5 := h2
      rw [if_neg h2] at hq
      refine z_C.go 5 rfl ?_
      refine z_C.if (fun h => ?_) (fun h => absurd h1 h)
      refine z_C.go 2 rfl ?_
      exact z_C.ret rfl rfl hq
  · have h1 : ¬ v.1 2 0 (10 * iN a + iN 1).toNatClampNeg = 5 := h1
    rw [if_neg h1] at hq
    refine z_C.go 4 rfl ?_
    refine z_C.if (fun h2 => ?_) (fun h2 => ?_)
    · have h2 : v.1 2 0 (10 * iN b + iN 1).toNatClampNeg = 5 := h2
      rw [if_pos h2] at hq
      refine z_C.go 6 rfl ?_
      refine z_C.if (fun h => absurd h h1) (fun h => ?_)
      refine z_C.go 1 rfl ?_
      exact z_C.ret rfl rfl hq
    · have h2 : ¬ v.1 2 0 (10 * iN b + iN 1).toNatClampNeg = 5 := h2
      rw [if_neg h2] at hq
      refine z_C.go 9 rfl ?_
      refine z_C.go1 rfl (if_pos ⟨rfl, ia3⟩) ?_
      refine z_C.go 8 rfl ?_
      refine z_C.go1 rfl (if_pos ⟨rfl, ib3⟩) ?_
      refine z_C.go 4 rfl ?_
      refine z_C.if (fun h => ?_) (fun h => ?_)
      · have h : v.1 2 0 (10 * iN a + iN 3).toNatClampNeg = v.1 2 0 (10 * iN b + iN 3).toNatClampNeg := h
        rw [if_pos h] at hq
        refine z_C.go 5 rfl ?_
        refine z_C.go1 rfl (if_pos ⟨rfl, ia0⟩) ?_
        refine z_C.go 5 rfl ?_
        refine z_C.go1 rfl (if_pos ⟨rfl, ib0⟩) ?_
        refine z_C.go 1 rfl ?_
        refine z_C.if (fun h => ?_) (fun h => ?_)
        · rw [if_neg (by rw [decide_eq_true_eq]; exact Int32.not_lt.mpr h)] at hq
          refine z_C.go 1 rfl ?_
          exact z_C.ret rfl rfl hq
        · rw [if_pos (by rw [decide_eq_true_eq]; exact Int32.not_le.mp h)] at hq
          refine z_C.go 2 rfl ?_
          exact z_C.ret rfl rfl hq
      · have h : ¬ v.1 2 0 (10 * iN a + iN 3).toNatClampNeg = v.1 2 0 (10 * iN b + iN 3).toNatClampNeg := h
        rw [if_neg h] at hq
        refine z_C.go 3 rfl ?_
        refine z_C.if (fun h => ?_) (fun h => ?_)
        · rw [if_neg (by rw [decide_eq_true_eq]; exact Int32.not_lt.mpr h)] at hq
          refine z_C.go 2 rfl ?_
          exact z_C.ret rfl rfl hq
        · rw [if_pos (by rw [decide_eq_true_eq]; exact Int32.not_le.mp h)] at hq
          refine z_C.go 2 rfl ?_
          exact z_C.ret rfl rfl hq
