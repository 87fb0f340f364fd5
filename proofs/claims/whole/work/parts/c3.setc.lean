/-! settings: the class -/
def cSet (S : Nat → Nat) (w : z_W) : Prop := w.1 9 20 3 = iN (S 2) ∧ w.1 9 20 4 = iN (S 3) ∧ w.1 9 20 5 = iN (S 4) ∧ w.1 9 20 6 = iN (S 5) ∧ w.1 9 20 7 = iN (S 6) ∧ w.1 9 20 2 = iN (if S 9 = 1 then 4 else 3)
def wF (w w' : z_W) : Prop := w'.2 = w.2 ∧ ∀ g i k, ¬ (g = 9 ∧ i = 20 ∧ 2 ≤ k ∧ k ≤ 7) → w'.1 g i k = w.1 g i k
theorem wF.rf (w : z_W) : wF w w := ⟨rfl, fun _ _ _ _ => rfl⟩
theorem wF.tr {w w' w'' : z_W} (h1 : wF w w') (h2 : wF w' w'') : wF w w'' := ⟨h2.1.trans h1.1, fun g i k a => (h2.2 g i k a).trans (h1.2 g i k a)⟩
theorem wF.si {w : z_W} {k : Nat} {x : Int32} (hk : 2 ≤ k ∧ k ≤ 7) : wF w (z_si w 9 20 k x) := ⟨rfl, fun g i q a => if_neg (fun h => a ⟨h.1, h.2.1, by omega, by omega⟩)⟩
theorem nm_eq {D : Nat → Nat} {len q : Nat} {l : List Nat} {lit : Int64} (hg : aGood D len q) (hl : numL l < 9223372036854775808) (he : lit = iL (numL l)) : lg_cmp (iL (aName D q)) lit = 0 ↔ aName D q = numL l := by
  rw [he, lg_eq]
  exact iL_inj (aName_63 hg) hl
theorem vl_eq {D : Nat → Nat} {len q : Nat} {l : List Nat} {lit : Int64} (hg : aGood D len q) (h68 : D q = 68) (hl : numL l < 9223372036854775808) (he : lit = iL (numL l)) : lg_cmp (aVal D q) lit = 0 ↔ aX D q = numL l := by
  have hz : sZ D q ≤ 8 := by rcases hg.2.2.2.2.1 with h | h | h <;> omega
  have ev : aVal D q = iL (aX D q) := by unfold aVal aX; rw [if_pos h68]
  rw [he, lg_eq, ev]
  exact iL_inj (numF_63 hz (hg.2.2.2.2.2.2.2 h68)) hl
theorem in32 (x : Int32) : x.toInt64.toInt32 = x := by
  apply Int32.toInt_inj.mp
  rw [Int64.toInt_toInt32, Int32.toInt_toInt64]
  exact Int32.toInt_bmod_size x
section SC
variable {D : Nat → Nat} {len q : Nat} {S : Nat → Nat} {w : z_W} {Q : z_W → Option z_V → Prop}
theorem e_setInt (hg : aGood D len q) (h33 : D q = 33) (hx : aX D q < 4294967296) (hS : cSet S w) (h1 : ∀ S', setS D q S = some S' → ∀ w', wF w w' → cSet S' w' → Q w' (some (zI 1))) (h0 : setS D q S = none → ∀ w', wF w w' → Q w' (some (zI 0))) :
    cRun kJ_setInteger (0, [some (zR 9 20), some (zL (iL (aName D q))), none, some (zI (iN (aX D q)))], [], w) Q := by
  obtain ⟨s1, s2, s3, s4, s5, s6⟩ := hS
  have eC := nm_eq (l := lCop) (lit := 109330278475123) hg (by decide +kernel) (by decide +kernel)
  have eP := nm_eq (l := lPri) (lit := 8102654606974743673) hg (by decide +kernel) (by decide +kernel)
  have eU := nm_eq (l := lUp) (lit := 30064) hg (by decide +kernel) (by decide +kernel)
  unfold setS at h1 h0
  refine z_C.go 4 rfl ?_
  refine z_C.if (fun h => ?_) (fun h => ?_)
  · have hc : D q = 33 ∧ aName D q = numL lCop := ⟨h33, eC.mp h⟩
    rw [if_pos hc] at h1 h0
    have rng := in_rng (B := 3) hx (by decide)
    refine z_C.go 6 rfl ?_
    refine z_C.if (fun h => ?_) (fun h2 => ?_)
    · have h : iN (aX D q) < 1 := h
      refine z_C.go 1 rfl ?_
      refine z_C.ret rfl rfl (h0 (if_neg (fun h9 => ?_)) _ (wF.si (by decide)))
      exact absurd h (Int32.not_lt.mpr (rng.mpr h9).1)
    · refine z_C.go 3 rfl ?_
      refine z_C.if (fun h => ?_) (fun h3 => ?_)
      · have h : 3 < iN (aX D q) := h
        refine z_C.go 1 rfl ?_
        refine z_C.ret rfl rfl (h0 (if_neg (fun h9 => ?_)) _ (wF.si (by decide)))
        exact absurd h (Int32.not_lt.mpr (rng.mpr h9).2)
      · refine z_C.go 2 rfl ?_
        exact z_C.ret rfl rfl (h1 _ (if_pos (rng.mp ⟨Int32.not_lt.mp h2, Int32.not_lt.mp h3⟩)) _ (wF.si (by decide)) ⟨rfl, s2, s3, s4, s5, s6⟩)
  · have hc : ¬ (D q = 33 ∧ aName D q = numL lCop) := fun h9 => h (eC.mpr h9.2)
    rw [if_neg hc] at h1 h0
    refine z_C.go 4 rfl ?_
    refine z_C.if (fun h => ?_) (fun h => ?_)
    · have hc : D q = 33 ∧ aName D q = numL lPri := ⟨h33, eP.mp h⟩
      rw [if_pos hc] at h1 h0
      have rng := in_rng (B := 100) hx (by decide)
      refine z_C.go 6 rfl ?_
      refine z_C.if (fun h => ?_) (fun h2 => ?_)
      · have h : iN (aX D q) < 1 := h
        refine z_C.go 1 rfl ?_
        refine z_C.ret rfl rfl (h0 (if_neg (fun h9 => ?_)) _ (wF.si (by decide)))
        exact absurd h (Int32.not_lt.mpr (rng.mpr h9).1)
      · refine z_C.go 3 rfl ?_
        refine z_C.if (fun h => ?_) (fun h3 => ?_)
        · have h : 100 < iN (aX D q) := h
          refine z_C.go 1 rfl ?_
          refine z_C.ret rfl rfl (h0 (if_neg (fun h9 => ?_)) _ (wF.si (by decide)))
          exact absurd h (Int32.not_lt.mpr (rng.mpr h9).2)
        · refine z_C.go 2 rfl ?_
          exact z_C.ret rfl rfl (h1 _ (if_pos (rng.mp ⟨Int32.not_lt.mp h2, Int32.not_lt.mp h3⟩)) _ (wF.si (by decide)) ⟨s1, rfl, s3, s4, s5, s6⟩)
    · have hc : ¬ (D q = 33 ∧ aName D q = numL lPri) := fun h9 => h (eP.mpr h9.2)
      rw [if_neg hc] at h1 h0
      refine z_C.go 4 rfl ?_
      refine z_C.if (fun h => ?_) (fun h => ?_)
      · have hc : D q = 33 ∧ aName D q = numL lUp := ⟨h33, eU.mp h⟩
        rw [if_pos hc] at h1 h0
        have e1 : iN (aX D q) = 1 ↔ aX D q = 1 := iN_eq32 (k := 1) hx (by decide)
        have e2 : iN (aX D q) = 2 ↔ aX D q = 2 := iN_eq32 (k := 2) hx (by decide)
        have e4 : iN (aX D q) = 4 ↔ aX D q = 4 := iN_eq32 (k := 4) hx (by decide)
        have ok : (aX D q = 1 ∨ aX D q = 2 ∨ aX D q = 4) → Q (z_si w 9 20 5 (iN (aX D q))) (some (zI 1)) := fun h9 => h1 _ (if_pos h9) _ (wF.si (by decide)) ⟨s1, s2, rfl, s4, s5, s6⟩
        refine z_C.go 6 rfl ?_
        refine z_C.if (fun h => ?_) (fun n1 => ?_)
        · refine z_C.go 2 rfl ?_
          exact z_C.ret rfl rfl (ok (Or.inl (e1.mp h)))
        · refine z_C.go 3 rfl ?_
          refine z_C.if (fun h => ?_) (fun n2 => ?_)
          · refine z_C.go 2 rfl ?_
            exact z_C.ret rfl rfl (ok (Or.inr (Or.inl (e2.mp h))))
          · refine z_C.go 3 rfl ?_
            refine z_C.if (fun h => ?_) (fun n4 => ?_)
            · refine z_C.go 2 rfl ?_
              exact z_C.ret rfl rfl (ok (Or.inr (Or.inr (e4.mp h))))
            · refine z_C.go 1 rfl ?_
              refine z_C.ret rfl rfl (h0 (if_neg (fun h9 => ?_)) _ (wF.si (by decide)))
              rcases h9 with h9 | h9 | h9
              · exact absurd (e1.mpr h9) n1
              · exact absurd (e2.mpr h9) n2
              · exact absurd (e4.mpr h9) n4
      · have hc : ¬ (D q = 33 ∧ aName D q = numL lUp) := fun h9 => h (eU.mpr h9.2)
        rw [if_neg hc, if_neg (fun h9 => by omega), if_neg (fun h9 => by omega), if_neg (fun h9 => by omega)] at h0
        refine z_C.go 1 rfl ?_
        exact z_C.ret rfl rfl (h0 rfl w (wF.rf w))
theorem e_setBoo (hg : aGood D len q) (h34 : D q = 34) (hx : aX D q ≤ 1) (hS : cSet S w) (h1 : ∀ S', setS D q S = some S' → ∀ w', wF w w' → cSet S' w' → Q w' (some (zI 1))) (h0 : setS D q S = none → ∀ w', wF w w' → Q w' (some (zI 0))) :
    cRun kJ_setBoolean (0, [some (zR 9 20), some (zL (iL (aName D q))), none, some (zI (iN (aX D q)))], [], w) Q := by
  obtain ⟨s1, s2, s3, s4, s5, s6⟩ := hS
  have eH := nm_eq (l := lHol) (lit := 1752132708) hg (by decide +kernel) (by decide +kernel)
  have eB := nm_eq (l := lBoo) (lit := 27707072051963252) hg (by decide +kernel) (by decide +kernel)
  have hne : ¬ numL lHol = numL lBoo := by decide +kernel
  unfold setS at h1 h0
  rw [if_neg (fun h9 => by omega), if_neg (fun h9 => by omega), if_neg (fun h9 => by omega), if_neg (fun h9 => by omega)] at h0
  have h1' : ∀ S', (if D q = 34 ∧ aName D q = numL lBoo then some (updS S 6 (aX D q)) else if D q = 34 ∧ aName D q = numL lHol then some (updS S 9 (aX D q)) else none) = some S' → ∀ w', wF w w' → cSet S' w' → Q w' (some (zI 1)) := fun S' h9 => h1 S' (by
    rw [if_neg (fun h9 => by omega), if_neg (fun h9 => by omega), if_neg (fun h9 => by omega), if_neg (fun h9 => by omega)]
    exact h9)
  refine z_C.go 4 rfl ?_
  refine z_C.if (fun h => ?_) (fun h => ?_)
  · have hn := eH.mp h
    have nb : ¬ (D q = 34 ∧ aName D q = numL lBoo) := fun h9 => hne (hn.symm.trans h9.2)
    rw [if_neg nb, if_pos ⟨h34, hn⟩] at h1'
    refine z_C.go 4 rfl ?_
    refine z_C.if (fun h => ?_) (fun h => ?_)
    · have e : aX D q = 1 := (iN_inj (b := 1) (by omega) (by decide)).mp h
      refine z_C.go 4 rfl ?_
      refine z_C.ret rfl rfl (h1' _ rfl _ (wF.si (by decide)) ⟨s1, s2, s3, s4, s5, ?_⟩)
      show (4 : Int32) = iN (if (if 9 = 9 then aX D q else S 9) = 1 then 4 else 3)
      rw [if_pos rfl, if_pos e]
      rfl
    · have e : ¬ aX D q = 1 := fun h9 => h ((iN_inj (b := 1) (by omega) (by decide)).mpr h9)
      refine z_C.go 3 rfl ?_
      refine z_C.ret rfl rfl (h1' _ rfl _ (wF.si (by decide)) ⟨s1, s2, s3, s4, s5, ?_⟩)
      show (3 : Int32) = iN (if (if 9 = 9 then aX D q else S 9) = 1 then 4 else 3)
      rw [if_pos rfl, if_neg e]
      rfl
  · have nh : ¬ (D q = 34 ∧ aName D q = numL lHol) := fun h9 => h (eH.mpr h9.2)
    refine z_C.go 4 rfl ?_
    refine z_C.if (fun h => ?_) (fun h => ?_)
    · rw [if_pos ⟨h34, eB.mp h⟩] at h1'
      refine z_C.go 4 rfl ?_
      exact z_C.ret rfl rfl (h1' _ rfl _ (wF.si (by decide)) ⟨s1, s2, s3, s4, rfl, s6⟩)
    · have nb : ¬ (D q = 34 ∧ aName D q = numL lBoo) := fun h9 => h (eB.mpr h9.2)
      rw [if_neg nb, if_neg nh] at h0
      refine z_C.go 1 rfl ?_
      exact z_C.ret rfl rfl (h0 rfl w (wF.rf w))
theorem e_setSid (hg : aGood D len q) (h68 : D q = 68) (hn : aName D q = numL lSid) (hS : cSet S w) (h1 : ∀ S', setS D q S = some S' → ∀ w', wF w w' → cSet S' w' → Q w' (some (zI 1))) (h0 : setS D q S = none → ∀ w', wF w w' → Q w' (some (zI 0))) :
    cRun kJ_setSides (0, [some (zR 9 20), some (zL (aVal D q)), none], [], w) Q := by
  obtain ⟨s1, s2, s3, s4, s5, s6⟩ := hS
  have e1 := vl_eq (l := lOne) (lit := 7302757) hg h68 (by decide +kernel) (by decide +kernel)
  have e2 := vl_eq (l := lLon) (lit := 1819242087) hg h68 (by decide +kernel) (by decide +kernel)
  have e3 := vl_eq (l := lSho) (lit := 495673373300) hg h68 (by decide +kernel) (by decide +kernel)
  unfold setS at h1 h0
  have h1' : ∀ S', (if aX D q = numL lOne then some (updS S 5 0) else if aX D q = numL lLon then some (updS S 5 1) else if aX D q = numL lSho then some (updS S 5 2) else none) = some S' → ∀ w', wF w w' → cSet S' w' → Q w' (some (zI 1)) := fun S' h9 => h1 S' (by
    rw [if_neg (fun h9 => by omega), if_neg (fun h9 => by omega), if_neg (fun h9 => by omega), if_pos ⟨h68, hn⟩]
    exact h9)
  rw [if_neg (fun h9 => by omega), if_neg (fun h9 => by omega), if_neg (fun h9 => by omega), if_pos ⟨h68, hn⟩] at h0
  refine z_C.go 4 rfl ?_
  refine z_C.if (fun h => ?_) (fun n1 => ?_)
  · refine z_C.go 8 rfl ?_
    refine z_C.if (fun _ => ?_) (fun h9 => absurd h h9)
    refine z_C.go 2 rfl ?_
    exact z_C.ret rfl rfl (h1' _ (if_pos (e1.mp h)) _ (wF.si (by decide)) ⟨s1, s2, s3, rfl, s5, s6⟩)
  · have m1 : ¬ aX D q = numL lOne := fun h9 => n1 (e1.mpr h9)
    rw [if_neg m1] at h1' h0
    refine z_C.go 4 rfl ?_
    refine z_C.if (fun h => ?_) (fun n2 => ?_)
    · refine z_C.go 8 rfl ?_
      refine z_C.if (fun h9 => absurd h9 n1) (fun _ => ?_)
      refine z_C.go 4 rfl ?_
      refine z_C.if (fun _ => ?_) (fun h9 => absurd h h9)
      refine z_C.go 2 rfl ?_
      exact z_C.ret rfl rfl (h1' _ (if_pos (e2.mp h)) _ (wF.si (by decide)) ⟨s1, s2, s3, rfl, s5, s6⟩)
    · have m2 : ¬ aX D q = numL lLon := fun h9 => n2 (e2.mpr h9)
      rw [if_neg m2] at h1' h0
      refine z_C.go 7 rfl ?_
      refine z_C.if (fun h9 => absurd h9 n1) (fun _ => ?_)
      refine z_C.go 4 rfl ?_
      refine z_C.if (fun h9 => absurd h9 n2) (fun _ => ?_)
      refine z_C.go 4 rfl ?_
      refine z_C.if (fun h => ?_) (fun n3 => ?_)
      · refine z_C.go 2 rfl ?_
        exact z_C.ret rfl rfl (h1' _ (if_pos (e3.mp h)) _ (wF.si (by decide)) ⟨s1, s2, s3, rfl, s5, s6⟩)
      · have m3 : ¬ aX D q = numL lSho := fun h9 => n3 (e3.mpr h9)
        rw [if_neg m3] at h0
        refine z_C.go 1 rfl ?_
        exact z_C.ret rfl rfl (h0 rfl _ (wF.si (by decide)))
theorem e_set (hb : ∀ k, k < len → D k < 256) (hg : aGood D len q) (hS : cSet S w) (h1 : ∀ S', setS D q S = some S' → ∀ w', wF w w' → cSet S' w' → Q w' (some (zI 1))) (h0 : setS D q S = none → ∀ w', wF w w' → Q w' (some (zI 0))) :
    cRun kJ_set (0, [some (zR 9 20), some (zI (iN (D q))), some (zL (iL (aName D q))), none, some (zL (aVal D q)), none], [], w) Q := by
  have fin : ∀ {k : Nat} {as : List z_V} {L9 : z_L}, True := fun {_ _ _} => trivial
  rcases hg.2.2.2.2.1 with ⟨t, z⟩ | ⟨t, z⟩ | ⟨t, z⟩
  · have ev : (aVal D q).toInt32 = iN (aX D q) := by unfold aVal aX; rw [if_neg (by omega), in32]
    rw [t]
    refine z_C.go 2 rfl ?_
    refine z_C.go 4 rfl ?_
    rw [ev]
    cases hs : setS D q S with
    | none =>
      refine z_C.call rfl rfl (e_setInt (Q := fun w' r => wF w w' ∧ r = some (zI 0)) hg t (aX_32 hb hg t) hS (fun S' h9 => by rw [hs] at h9; cases h9) (fun _ w' a => ⟨a, rfl⟩)) (fun w' r h => ?_)
      obtain ⟨a, rfl⟩ := h
      exact z_C.ret rfl rfl (h0 hs w' a)
    | some S' =>
      refine z_C.call rfl rfl (e_setInt (Q := fun w' r => wF w w' ∧ cSet S' w' ∧ r = some (zI 1)) hg t (aX_32 hb hg t) hS (fun S9 h9 w' a b => by rw [hs] at h9; cases h9; exact ⟨a, b, rfl⟩) (fun h9 => by rw [hs] at h9; cases h9)) (fun w' r h => ?_)
      obtain ⟨a, b, rfl⟩ := h
      exact z_C.ret rfl rfl (h1 S' hs w' a b)
  · have ev : (aVal D q).toInt32 = iN (aX D q) := by unfold aVal aX; rw [if_neg (by omega), in32]
    have hx : aX D q ≤ 1 := by
      unfold aX
      rw [z, numF_1]
      exact hg.2.2.2.2.2.2.1 t
    rw [t]
    refine z_C.go 2 rfl ?_
    refine z_C.go 4 rfl ?_
    rw [ev]
    cases hs : setS D q S with
    | none =>
      refine z_C.call rfl rfl (e_setBoo (Q := fun w' r => wF w w' ∧ r = some (zI 0)) hg t hx hS (fun S' h9 => by rw [hs] at h9; cases h9) (fun _ w' a => ⟨a, rfl⟩)) (fun w' r h => ?_)
      obtain ⟨a, rfl⟩ := h
      exact z_C.ret rfl rfl (h0 hs w' a)
    | some S' =>
      refine z_C.call rfl rfl (e_setBoo (Q := fun w' r => wF w w' ∧ cSet S' w' ∧ r = some (zI 1)) hg t hx hS (fun S9 h9 w' a b => by rw [hs] at h9; cases h9; exact ⟨a, b, rfl⟩) (fun h9 => by rw [hs] at h9; cases h9)) (fun w' r h => ?_)
      obtain ⟨a, b, rfl⟩ := h
      exact z_C.ret rfl rfl (h1 S' hs w' a b)
  · have eS := nm_eq (l := lSid) (lit := 495689426291) hg (by decide +kernel) (by decide +kernel)
    rw [t]
    refine z_C.go 2 rfl ?_
    refine z_C.go 4 rfl ?_
    refine z_C.if (fun h => ?_) (fun h => ?_)
    · have hn := eS.mp h
      refine z_C.go 2 rfl ?_
      cases hs : setS D q S with
      | none =>
        refine z_C.call rfl rfl (e_setSid (Q := fun w' r => wF w w' ∧ r = some (zI 0)) hg t hn hS (fun S' h9 => by rw [hs] at h9; cases h9) (fun _ w' a => ⟨a, rfl⟩)) (fun w' r h => ?_)
        obtain ⟨a, rfl⟩ := h
        refine z_C.go 1 rfl ?_
        refine z_C.if (fun _ => ?_) (fun h => absurd (by decide) h)
        refine z_C.go 1 rfl ?_
        exact z_C.ret rfl rfl (h0 hs w' a)
      | some S' =>
        refine z_C.call rfl rfl (e_setSid (Q := fun w' r => wF w w' ∧ cSet S' w' ∧ r = some (zI 1)) hg t hn hS (fun S9 h9 w' a b => by rw [hs] at h9; cases h9; exact ⟨a, b, rfl⟩) (fun h9 => by rw [hs] at h9; cases h9)) (fun w' r h => ?_)
        obtain ⟨a, b, rfl⟩ := h
        refine z_C.go 1 rfl ?_
        refine z_C.if (fun h => absurd h (by decide)) (fun _ => ?_)
        refine z_C.go 2 rfl ?_
        exact z_C.ret rfl rfl (h1 S' hs w' a b)
    · have hn : ¬ aName D q = numL lSid := fun h9 => h (eS.mpr h9)
      have hs : setS D q S = none := by
        unfold setS
        rw [if_neg (fun h9 => by omega), if_neg (fun h9 => by omega), if_neg (fun h9 => by omega), if_neg (fun h9 => hn h9.2), if_neg (fun h9 => by omega), if_neg (fun h9 => by omega)]
      refine z_C.go 1 rfl ?_
      exact z_C.ret rfl rfl (h0 hs w (wF.rf w))
/-- all settings of the second group -/
theorem setL_none (D : Nat → Nat) : ∀ G : List Nat, setL D G none = none := by
  intro G
  induction G with
  | nil => rfl
  | cons a G ih => exact ih
theorem cA.wF {L : List Nat} {w' : z_W} (h : cA D L w) (hf : wF w w') : cA D L w' := h.fr (hf.2 3 0 4 (by omega)) (fun k => hf.2 4 0 k (by omega)) (by rw [hf.1])
theorem e_setl_loop {L : List Nat} {W0 : z_W} (hb : ∀ k, k < len → D k < 256) (hg : ∀ q ∈ L, aGood D len q) (hL34 : L.length < 34) {r : Option (Nat → Nat)}
    (h1 : ∀ S', r = some S' → ∀ w', wF W0 w' → cSet S' w' → Q w' (some (zI (if S' 6 = 0 ∨ S' 4 = 1 then 1 else 0)))) (h0 : r = none → ∀ w', wF W0 w' → Q w' (some (zI 0))) (hsm : ∀ S', r = some S' → S' 6 < 1000 ∧ S' 4 < 1000) : ∀ (d i : Nat) (S : Nat → Nat) (w : z_W), i + d = L.length → setL D (L.drop i) (some S) = r → wF W0 w → cA D L w → cSet S w →
    cRun kM_readSettings (5, [some (zR 3 0), some (zR 9 20), some (zI (iN i))], [], w) Q := by
  intro d
  induction d with
  | zero =>
    intro i S w hi hr hF ha hS
    have ed : L.drop i = [] := List.drop_eq_nil_of_le (by omega)
    rw [ed] at hr
    have hr : some S = r := hr
    have hsm' := hsm S hr.symm
    refine z_C.go 2 rfl ?_
    refine z_C.ld rfl rfl ha.1 ?_
    refine z_C.go 1 rfl ?_
    refine z_C.if (fun _ => ?_) (fun h => absurd ((iN_le (by omega) (by omega)).mpr (by omega)) h)
    have k9 := h1 S hr.symm w hF hS
    refine z_C.go 1 rfl ?_
    refine z_C.ld rfl rfl hS.2.2.2.2.1 ?_
    refine z_C.go 1 rfl ?_
    refine z_C.if (fun h => ?_) (fun h => ?_)
    · have h6 : S 6 = 0 := (iN_inj (b := 0) (by omega) (by decide)).mp h
      rw [if_pos (Or.inl h6)] at k9
      refine z_C.go 2 rfl ?_
      exact z_C.ret rfl rfl k9
    · have h6 : ¬ S 6 = 0 := fun h9 => h ((iN_inj (b := 0) (by omega) (by decide)).mpr h9)
      refine z_C.go 1 rfl ?_
      refine z_C.ld rfl rfl hS.2.2.1 ?_
      refine z_C.go 2 rfl ?_
      refine z_C.if (fun h => ?_) (fun h => ?_)
      · have h4 : S 4 = 1 := (iN_inj (b := 1) (by omega) (by decide)).mp h
        rw [if_pos (Or.inr h4)] at k9
        refine z_C.go 2 rfl ?_
        exact z_C.ret rfl rfl k9
      · have h4 : ¬ S 4 = 1 := fun h9 => h ((iN_inj (b := 1) (by omega) (by decide)).mpr h9)
        rw [if_neg (fun h9 => by rcases h9 with h9 | h9; exact h6 h9; exact h4 h9)] at k9
        refine z_C.go 1 rfl ?_
        exact z_C.ret rfl rfl k9
  | succ d ih =>
    intro i S w hi hr hF ha hS
    have hiL : i < L.length := by omega
    have ed : L.drop i = L[i]'hiL :: L.drop (i + 1) := List.drop_eq_getElem_cons hiL
    rw [ed] at hr
    have eL : L[i]? = some (L[i]'hiL) := List.getElem?_eq_getElem hiL
    have hgi := hg _ (List.getElem_mem hiL)
    generalize L[i]'hiL = q at hr eL hgi
    obtain ⟨a1, a2, a3⟩ := ha.2 i q eL
    have i1 : z_in (iN i) 34 = true := iN_in (by omega) (by omega)
    have nn : (iN i).toNatClampNeg = i := iN_nat (by omega)
    have hr : setL D (L.drop (i + 1)) (setS D q S) = r := hr
    refine z_C.go 2 rfl ?_
    refine z_C.ld rfl rfl ha.1 ?_
    refine z_C.go 1 rfl ?_
    refine z_C.if (fun h => absurd ((iN_le (by omega) (by omega)).mp h) (by omega)) (fun _ => ?_)
    refine z_C.go 4 rfl ?_
    refine z_C.ld (y := iN (D q)) rfl (if_pos ⟨rfl, i1⟩) (by rw [nn]; exact a1) ?_
    refine z_C.go 3 rfl ?_
    refine z_C.ldL (y := iL (aName D q)) rfl (if_pos ⟨rfl, i1⟩) (by rw [nn]; exact a2) ?_
    refine z_C.go 3 rfl ?_
    refine z_C.ldL (y := aVal D q) rfl (if_pos ⟨rfl, i1⟩) (by rw [nn]; exact a3) ?_
    cases hs : setS D q S with
    | none =>
      rw [hs, setL_none] at hr
      refine z_C.call rfl rfl (e_set (Q := fun w' r => wF w w' ∧ r = some (zI 0)) hb hgi hS (fun S' h9 => by rw [hs] at h9; cases h9) (fun _ w' a => ⟨a, rfl⟩)) (fun w' r h => ?_)
      obtain ⟨a, rfl⟩ := h
      refine z_C.go 1 rfl ?_
      refine z_C.if (fun _ => ?_) (fun h => absurd (by decide) h)
      refine z_C.go 1 rfl ?_
      exact z_C.ret rfl rfl (h0 hr.symm w' (hF.tr a))
    | some S' =>
      rw [hs] at hr
      refine z_C.call rfl rfl (e_set (Q := fun w' r => wF w w' ∧ cSet S' w' ∧ r = some (zI 1)) hb hgi hS (fun S9 h9 w' a b => by rw [hs] at h9; cases h9; exact ⟨a, b, rfl⟩) (fun h9 => by rw [hs] at h9; cases h9)) (fun w' r h => ?_)
      obtain ⟨a, b, rfl⟩ := h
      refine z_C.go 1 rfl ?_
      refine z_C.if (fun h => absurd h (by decide)) (fun _ => ?_)
      refine z_C.go 2 rfl ?_
      have k9 := ih (i + 1) S' w' (by omega) hr (hF.tr a) (ha.wF a) b
      rw [← iN_add i 1] at k9
      exact k9
end SC
