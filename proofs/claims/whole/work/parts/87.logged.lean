/-! a transaction of the class, whole -/
theorem aT_a {nb lg live : Nat} {st : Option Nat} (h : lg + nb ≤ 40) : aT nb lg live st = ((aW nb st).1, (aW nb st).2.1, (aW nb st).2.2, (if (aW nb st).1 = true then lg + nb else lg), false) := if_pos h
theorem aT_b {nb lg live : Nat} {st : Option Nat} (h : ¬ lg + nb ≤ 40) (h2 : (aW (live + 1) st).1 = true) : aT nb lg live st = ((aW nb (aW (live + 1) st).2.2).1, (aW (live + 1) st).2.1 + (aW nb (aW (live + 1) st).2.2).2.1, (aW nb (aW (live + 1) st).2.2).2.2, (if (aW nb (aW (live + 1) st).2.2).1 = true then live + nb else live), true) := (if_neg h).trans (if_pos h2)
theorem aT_c {nb lg live : Nat} {st : Option Nat} (h : ¬ lg + nb ≤ 40) (h2 : ¬ (aW (live + 1) st).1 = true) : aT nb lg live st = (false, (aW (live + 1) st).2.1, (aW (live + 1) st).2.2, lg, false) := (if_neg h).trans (if_neg h2)
theorem dFr.wide {w w' : z_W} (h : dFr w w') : ∀ g i k, ¬ (g = 11 ∧ i = 0) → w'.1 g i k = w.1 g i k := fun g i k hg => h.1 g i k (fun h9 => hg ⟨h9.1, h9.2.1⟩)
theorem e_logged {nb lg n : Nat} {A : Nat → Nat → Nat} {st : Option Nat} {w : z_W} {Q : z_W → Option z_V → Prop} (hnb : nb ≤ 10) (hlg : lg ≤ 40) (h1 : w.1 11 0 1 = iN lg) (hc : cLv n A w) (hlv : nLive A n ≤ 90) (h5 : ∀ k, k < 20 → w.2.2 13 0 k < 20) (h6 : ∀ k l, k < 20 → l < 20 → w.2.2 13 0 k = w.2.2 13 0 l → k = l) (hs : stopIs st (w.1 11 0 3))
    (hq : ∀ w', cT (aT nb lg (nLive A n) st) n A w w' → Q w' (some (zI (if (aT nb lg (nLive A n) st).1 = true then 1 else 0)))) : cRun kS_isLogged (0, [some (zR 12 0), some (zI (iN nb))], [], w) Q := by
  refine z_C.go 7 rfl ?_
  refine z_C.if (fun h => ?_) (fun h => ?_)
  · have h : w.1 11 0 1 + iN nb ≤ 40 := h
    rw [h1, iN_add] at h
    have hl : lg + nb ≤ 40 := (iN_le (b := 40) (by omega) (by decide)).mp h
    rw [aT_a hl] at hq
    refine z_C.go 3 rfl ?_
    refine z_C.call rfl rfl (e_write (d := nb) (w := w) (st := st) (Q := fun w1 r => dFr w w1 ∧ w1.1 11 0 0 = w.1 11 0 0 + iN (aW nb st).2.1 ∧ stopIs (aW nb st).2.2 (w1.1 11 0 3) ∧ w1.1 11 0 2 = (if (aW nb st).1 = true then w.1 11 0 2 else 0) ∧ r = some (zI (if (aW nb st).1 = true then 1 else 0))) (by omega) hs (fun w1 g1 g2 g3 g4 => ⟨g1, g2, g3, g4, rfl⟩)) (fun w1 r h => ?_)
    obtain ⟨g1, g2, g3, g4, rfl⟩ := h
    have l1 : w1.1 11 0 1 = iN lg := (g1.1 11 0 1 (by decide)).trans h1
    have r2 : w1.2.2 = w.2.2 := by rw [g1.2]
    have r1 : w1.2.1 = w.2.1 := by rw [g1.2]
    by_cases ho : (aW nb st).1 = true
    · rw [if_pos ho]
      refine z_C.go 9 rfl ?_
      have k9 := hq (z_si w1 11 0 1 (w1.1 11 0 1 + iN nb)) ⟨fun g i k hg _ => (if_neg (fun h => hg ⟨h.1, h.2.1⟩)).trans (g1.wide g i k hg), r1, g2, by
        show w1.1 11 0 1 + iN nb = iN (if (aW nb st).1 = true then lg + nb else lg)
        rw [if_pos ho, l1, iN_add], g4, g3, (fun h => by cases h), fun _ => ⟨g1.wide 12 0 2 (by decide), r2⟩⟩
      rw [show (((aW nb st).1, (aW nb st).2.1, (aW nb st).2.2, (if (aW nb st).1 = true then lg + nb else lg), false) : Bool × Nat × Option Nat × Nat × Bool).1 = (aW nb st).1 from rfl, if_pos ho] at k9
      exact z_C.ret rfl rfl k9
    · rw [if_neg ho]
      refine z_C.go 2 rfl ?_
      have k9 := hq w1 ⟨fun g i k hg _ => g1.wide g i k hg, r1, g2, by
        show w1.1 11 0 1 = iN (if (aW nb st).1 = true then lg + nb else lg)
        rw [if_neg ho, l1], g4, g3, (fun h => by cases h), fun _ => ⟨g1.wide 12 0 2 (by decide), r2⟩⟩
      rw [show (((aW nb st).1, (aW nb st).2.1, (aW nb st).2.2, (if (aW nb st).1 = true then lg + nb else lg), false) : Bool × Nat × Option Nat × Nat × Bool).1 = (aW nb st).1 from rfl, if_neg ho] at k9
      exact z_C.ret rfl rfl k9
  · have h : ¬ w.1 11 0 1 + iN nb ≤ 40 := h
    rw [h1, iN_add] at h
    have hl : ¬ lg + nb ≤ 40 := fun h9 => h ((iN_le (b := 40) (by omega) (by decide)).mpr h9)
    refine z_C.go 1 rfl ?_
    by_cases hr : (aW (nLive A n + 1) st).1 = true
    · rw [aT_b hl hr] at hq
      generalize hst1 : (aW (nLive A n + 1) st).2.2 = st1 at hq
      generalize hwr : (aW (nLive A n + 1) st).2.1 = wr at hq
      refine z_C.call rfl rfl (e_renewed (lg := lg) (Q := fun w2 r => r = some (zI 1) ∧ ∃ w1 w3, dFr w w1 ∧ w1.1 11 0 0 = w.1 11 0 0 + iN wr ∧ stopIs st1 (w1.1 11 0 3) ∧ w1.1 11 0 2 = w.1 11 0 2 ∧ fcI A n (z_si w1 11 0 1 (iN (nLive A n))) w3 ∧ w2 = z_si w3 12 0 2 (iN (fgt A n).1)) hc hlv h5 h6 hs (fun w' h9 => absurd hr h9) (fun w1 w3 _ g1 g2 g3 g4 g5 => ⟨rfl, w1, w3, g1, by rw [g2, hwr], by rw [← hst1]; exact g3, g4, g5, rfl⟩)) (fun w2 r h => ?_)
      obtain ⟨rfl, w1, w3, g1, g2, g3, g4, ⟨f1, f2, f3, f4, f5, f6⟩, rfl⟩ := h
      have er : w1.2.2 = w.2.2 := by rw [g1.2]
      have er1 : w1.2.1 = w.2.1 := by rw [g1.2]
      have q3 : (z_si w3 12 0 2 (iN (fgt A n).1)).1 11 0 3 = w1.1 11 0 3 := by show w3.1 11 0 3 = _; rw [f1]; rfl
      have q2 : (z_si w3 12 0 2 (iN (fgt A n).1)).1 11 0 2 = w.1 11 0 2 := by show w3.1 11 0 2 = _; rw [f1]; exact g4
      have q1 : (z_si w3 12 0 2 (iN (fgt A n).1)).1 11 0 1 = iN (nLive A n) := by show w3.1 11 0 1 = _; rw [f1]; rfl
      have q0 : (z_si w3 12 0 2 (iN (fgt A n).1)).1 11 0 0 = w.1 11 0 0 + iN wr := by show w3.1 11 0 0 = _; rw [f1]; exact g2
      have fr : ∀ g i k, ¬ (g = 11 ∧ i = 0) → ¬ (g = 12 ∧ i = 0 ∧ k = 2) → (z_si w3 12 0 2 (iN (fgt A n).1)).1 g i k = w.1 g i k := fun g i k hg hg2 => (if_neg hg2).trans (by
        rw [f1]
        exact (if_neg (fun h => hg ⟨h.1, h.2.1⟩)).trans (g1.wide g i k hg))
      refine z_C.go 4 rfl ?_
      refine z_C.call rfl rfl (e_write (d := nb) (w := z_si w3 12 0 2 (iN (fgt A n).1)) (st := st1) (Q := fun w4 r => dFr (z_si w3 12 0 2 (iN (fgt A n).1)) w4 ∧ w4.1 11 0 0 = w.1 11 0 0 + iN wr + iN (aW nb st1).2.1 ∧ stopIs (aW nb st1).2.2 (w4.1 11 0 3) ∧ w4.1 11 0 2 = (if (aW nb st1).1 = true then w.1 11 0 2 else 0) ∧ r = some (zI (if (aW nb st1).1 = true then 1 else 0))) (by omega) (by rw [q3]; exact g3) (fun w4 k1 k2 k3 k4 => ⟨k1, by rw [k2, q0], k3, by rw [k4, q2], rfl⟩)) (fun w4 r h => ?_)
      obtain ⟨k1, k2, k3, k4, rfl⟩ := h
      have l1 : w4.1 11 0 1 = iN (nLive A n) := (k1.1 11 0 1 (by decide)).trans q1
      have er4 : w4.2.2 = w3.2.2 := by rw [k1.2]; rfl
      have er5 : w4.2.1 = w.2.1 := by rw [k1.2]; exact f2.trans er1
      have hw : w.1 11 0 0 + iN wr + iN (aW nb st1).2.1 = w.1 11 0 0 + iN (wr + (aW nb st1).2.1) := by rw [Int32.add_assoc, iN_add]
      have new : cNew n A w w4 := ⟨k1.wide 12 0 2 (by decide), fun k hk => by rw [er4, f3 k hk]; show w1.2.2 13 0 _ = _; rw [er], by rw [er4]; exact f5, by rw [er4]; exact f6⟩
      by_cases ho : (aW nb st1).1 = true
      · rw [if_pos ho]
        refine z_C.go 9 rfl ?_
        have k9 := hq (z_si w4 11 0 1 (w4.1 11 0 1 + iN nb)) ⟨fun g i k hg hg2 => (if_neg (fun h => hg ⟨h.1, h.2.1⟩)).trans ((k1.wide g i k hg).trans (fr g i k hg hg2)), er5, k2.trans hw, by
          show w4.1 11 0 1 + iN nb = iN (if (aW nb st1).1 = true then nLive A n + nb else nLive A n)
          rw [if_pos ho, l1, iN_add], k4, k3, fun _ => new, fun h => absurd rfl h⟩
        have e9 : (if (aW nb st1).1 = true then (1 : Int32) else 0) = 1 := if_pos ho
        have k9 : Q (z_si w4 11 0 1 (w4.1 11 0 1 + iN nb)) (some (zI (if (aW nb st1).1 = true then 1 else 0))) := k9
        rw [e9] at k9
        exact z_C.ret rfl rfl k9
      · rw [if_neg ho]
        refine z_C.go 2 rfl ?_
        have k9 := hq w4 ⟨fun g i k hg hg2 => (k1.wide g i k hg).trans (fr g i k hg hg2), er5, k2.trans hw, by
          show w4.1 11 0 1 = iN (if (aW nb st1).1 = true then nLive A n + nb else nLive A n)
          rw [if_neg ho, l1], k4, k3, fun _ => new, fun h => absurd rfl h⟩
        have e9 : (if (aW nb st1).1 = true then (1 : Int32) else 0) = 0 := if_neg ho
        have k9 : Q w4 (some (zI (if (aW nb st1).1 = true then 1 else 0))) := k9
        rw [e9] at k9
        exact z_C.ret rfl rfl k9
    · rw [aT_c hl hr] at hq
      refine z_C.call rfl rfl (e_renewed (lg := lg) (Q := fun w2 r => r = some (zI 0) ∧ dFr w w2 ∧ w2.1 11 0 0 = w.1 11 0 0 + iN (aW (nLive A n + 1) st).2.1 ∧ stopIs (aW (nLive A n + 1) st).2.2 (w2.1 11 0 3) ∧ w2.1 11 0 2 = 0) hc hlv h5 h6 hs (fun w' _ g1 g2 g3 g4 => ⟨rfl, g1, g2, g3, g4⟩) (fun w1 w3 h9 => absurd h9 hr)) (fun w2 r h => ?_)
      obtain ⟨rfl, g1, g2, g3, g4⟩ := h
      refine z_C.go 2 rfl ?_
      have l1 : w2.1 11 0 1 = iN lg := (g1.1 11 0 1 (by decide)).trans h1
      exact z_C.ret rfl rfl (hq w2 ⟨fun g i k hg _ => g1.wide g i k hg, by rw [g1.2], g2, l1, g4, g3, (fun h => by cases h), fun _ => ⟨g1.wide 12 0 2 (by decide), by rw [g1.2]⟩⟩)
