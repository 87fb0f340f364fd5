/-! a transaction: the class -/
/-- nb blocks onto a log of lg, live ones in case it must be renewed, a stop set: is it done, how many blocks are written, the stop that is left, the log, is it a new one -/
def aT (nb lg live : Nat) (st : Option Nat) : Bool × Nat × Option Nat × Nat × Bool :=
  if lg + nb ≤ 40 then ((aW nb st).1, (aW nb st).2.1, (aW nb st).2.2, (if (aW nb st).1 = true then lg + nb else lg), false)
  else if (aW (live + 1) st).1 = true then ((aW nb (aW (live + 1) st).2.2).1, (aW (live + 1) st).2.1 + (aW nb (aW (live + 1) st).2.2).2.1, (aW nb (aW (live + 1) st).2.2).2.2, (if (aW nb (aW (live + 1) st).2.2).1 = true then live + nb else live), true)
  else (false, (aW (live + 1) st).2.1, (aW (live + 1) st).2.2, lg, false)
def cNew (n : Nat) (A : Nat → Nat → Nat) (w w' : z_W) : Prop := w'.1 12 0 2 = iN (fgt A n).1 ∧ (∀ k, k < (fgt A n).1 → w'.2.2 13 0 k = w.2.2 13 0 ((fgt A n).2 k)) ∧ (∀ k, k < 20 → w'.2.2 13 0 k < 20) ∧ ∀ k l, k < 20 → l < 20 → w'.2.2 13 0 k = w'.2.2 13 0 l → k = l
def cT (t : Bool × Nat × Option Nat × Nat × Bool) (n : Nat) (A : Nat → Nat → Nat) (w w' : z_W) : Prop :=
  (∀ g i k, ¬ (g = 11 ∧ i = 0) → ¬ (g = 12 ∧ i = 0 ∧ k = 2) → w'.1 g i k = w.1 g i k) ∧ w'.2.1 = w.2.1 ∧ w'.1 11 0 0 = w.1 11 0 0 + iN t.2.1 ∧ w'.1 11 0 1 = iN t.2.2.2.1 ∧ w'.1 11 0 2 = (if t.1 = true then w.1 11 0 2 else 0) ∧ stopIs t.2.2.1 (w'.1 11 0 3) ∧
  (t.2.2.2.2 = true → cNew n A w w') ∧ (¬ t.2.2.2.2 = true → w'.1 12 0 2 = w.1 12 0 2 ∧ w'.2.2 = w.2.2)
theorem e_renewed {n lg : Nat} {A : Nat → Nat → Nat} {st : Option Nat} {w : z_W} {Q : z_W → Option z_V → Prop} (hc : cLv n A w) (hlv : nLive A n ≤ 90) (h5 : ∀ k, k < 20 → w.2.2 13 0 k < 20) (h6 : ∀ k l, k < 20 → l < 20 → w.2.2 13 0 k = w.2.2 13 0 l → k = l) (hs : stopIs st (w.1 11 0 3))
    (hf : ∀ w', ¬ (aW (nLive A n + 1) st).1 = true → dFr w w' → w'.1 11 0 0 = w.1 11 0 0 + iN (aW (nLive A n + 1) st).2.1 → stopIs (aW (nLive A n + 1) st).2.2 (w'.1 11 0 3) → w'.1 11 0 2 = 0 → Q w' (some (zI 0)))
    (hq : ∀ w1 w', (aW (nLive A n + 1) st).1 = true → dFr w w1 → w1.1 11 0 0 = w.1 11 0 0 + iN (aW (nLive A n + 1) st).2.1 → stopIs (aW (nLive A n + 1) st).2.2 (w1.1 11 0 3) → w1.1 11 0 2 = w.1 11 0 2 → fcI A n (z_si w1 11 0 1 (iN (nLive A n))) w' → Q (z_si w' 12 0 2 (iN (fgt A n).1)) (some (zI 1))) :
    cRun kS_isLogRenewed (0, [some (zR 12 0), none], [], w) Q := by
  refine z_C.go 1 rfl ?_
  refine z_C.call rfl rfl (zC_up (C' := zC) (k_live (Q := fun w' r => w' = w ∧ r = some (zI (iN (nLive A n)))) hc ⟨rfl, rfl⟩)) (fun w' r h => ?_)
  obtain ⟨rfl, rfl⟩ := h
  refine z_C.go 6 rfl ?_
  have e1 : iN (nLive A n) + 1 = iN (nLive A n + 1) := iN_add _ 1
  have W9 := e_write (d := nLive A n + 1) (w := w') (st := st) (Q := fun w1 r => dFr w' w1 ∧ w1.1 11 0 0 = w'.1 11 0 0 + iN (aW (nLive A n + 1) st).2.1 ∧ stopIs (aW (nLive A n + 1) st).2.2 (w1.1 11 0 3) ∧ w1.1 11 0 2 = (if (aW (nLive A n + 1) st).1 = true then w'.1 11 0 2 else 0) ∧ r = some (zI (if (aW (nLive A n + 1) st).1 = true then 1 else 0))) (by omega) hs (fun w1 g1 g2 g3 g4 => ⟨g1, g2, g3, g4, rfl⟩)
  rw [← e1] at W9
  refine z_C.call rfl rfl W9 (fun w1 r h => ?_)
  obtain ⟨g1, g2, g3, g4, rfl⟩ := h
  by_cases ho : (aW (nLive A n + 1) st).1 = true
  · rw [if_pos ho] at g4 ⊢
    refine z_C.go 6 rfl ?_
    obtain ⟨⟨hn2, hn⟩, hJ⟩ := hc
    have er : w1.2.2 = w'.2.2 := by rw [g1.2]
    refine z_C.call rfl rfl (e_forget (n := n) (A := A) (w := z_si w1 11 0 1 (iN (nLive A n))) (Q := fun w2 r => r = none ∧ ∃ w3, fcI A n (z_si w1 11 0 1 (iN (nLive A n))) w3 ∧ w2 = z_si w3 12 0 2 (iN (fgt A n).1)) ⟨⟨hn2, ?_⟩, fun k hk => ?_⟩ ?_ ?_ (fun w3 h3 => ⟨rfl, w3, h3, rfl⟩)) (fun w2 r h => ?_)
    · show w1.1 12 0 2 = iN n
      rw [g1.1 12 0 2 (by decide)]
      exact hn
    · show w1.1 9 (w1.2.2 13 0 k) 2 = _ ∧ w1.1 9 (w1.2.2 13 0 k) 8 = _ ∧ _
      rw [er, g1.1 9 _ 2 (fun h => absurd h.1 (by decide)), g1.1 9 _ 8 (fun h => absurd h.1 (by decide))]
      exact hJ k hk
    · show ∀ k, k < 20 → w1.2.2 13 0 k < 20
      rw [er]
      exact h5
    · show ∀ k l, k < 20 → l < 20 → w1.2.2 13 0 k = w1.2.2 13 0 l → k = l
      rw [er]
      exact h6
    obtain ⟨rfl, w3, h3, rfl⟩ := h
    refine z_C.go 1 rfl ?_
    exact z_C.ret rfl rfl (hq w1 w3 ho g1 g2 g3 g4 h3)
  · rw [if_neg ho] at g4 ⊢
    refine z_C.go 2 rfl ?_
    exact z_C.ret rfl rfl (hf w1 ho g1 g2 g3 g4)
