/-! the class lays a sheet out -/
def nTn (a : Nat → Nat) : Nat := if a 7 = 1 then 1 else if a 5 = 2 then 1 else 0
def nCols (a : Nat → Nat) : Nat := if a 7 = 1 then 2 else if a 5 = 1 then 1 else 2
def nRows (a : Nat → Nat) : Nat := if a 7 = 1 then 1 else if a 5 = 4 then 2 else 1
def nCw (a : Nat → Nat) : Nat := if nTn a = 0 then 4 else 3
def nCh (a : Nat → Nat) : Nat := if nTn a = 0 then 3 else 4
theorem nLay {a : Nat → Nat} {nx : Nat} (h : aJob a nx) : (a 7 = 1 ∧ a 5 = 1 ∧ nTn a = 1 ∧ nCols a = 2 ∧ nRows a = 1 ∧ nCw a = 3 ∧ nCh a = 4 ∧ nW a = 6 ∧ nH a = 4) ∨ (a 7 = 0 ∧ a 5 = 1 ∧ nTn a = 0 ∧ nCols a = 1 ∧ nRows a = 1 ∧ nCw a = 4 ∧ nCh a = 3 ∧ nW a = 4 ∧ nH a = 3) ∨ (a 7 = 0 ∧ a 5 = 2 ∧ nTn a = 1 ∧ nCols a = 2 ∧ nRows a = 1 ∧ nCw a = 3 ∧ nCh a = 4 ∧ nW a = 6 ∧ nH a = 4) ∨ (a 7 = 0 ∧ a 5 = 4 ∧ nTn a = 0 ∧ nCols a = 2 ∧ nRows a = 2 ∧ nCw a = 4 ∧ nCh a = 3 ∧ nW a = 8 ∧ nH a = 6) := by
  unfold nCw nCh nTn nCols nRows
  rcases nWH h with ⟨h7, h5, hW, hH⟩ | ⟨h7, h5, hW, hH⟩ | ⟨h7, h5, hW, hH⟩ | ⟨h7, h5, hW, hH⟩
  · refine Or.inl ⟨h7, h5, ?_, ?_, ?_, ?_, ?_, hW, hH⟩ <;> simp [h7, h5]
  · refine Or.inr (Or.inl ⟨h7, h5, ?_, ?_, ?_, ?_, ?_, hW, hH⟩) <;> simp [h7, h5]
  · refine Or.inr (Or.inr (Or.inl ⟨h7, h5, ?_, ?_, ?_, ?_, ?_, hW, hH⟩)) <;> simp [h7, h5]
  · refine Or.inr (Or.inr (Or.inr ⟨h7, h5, ?_, ?_, ?_, ?_, ?_, hW, hH⟩)) <;> simp [h7, h5]
def cK (j : Nat) (a : Nat → Nat) (P : Nat → Int32) (w : z_W) : Prop := (∀ f, 1 ≤ f → f ≤ 8 → w.1 9 j f = iN (a f)) ∧ ∀ q, q < 12 * a 8 → w.1 10 j q = P q
def cL (a : Nat → Nat) (w : z_W) : Prop := w.1 14 0 3 = iN (nTn a) ∧ w.1 14 0 4 = iN (nCols a) ∧ w.1 14 0 5 = iN (nRows a) ∧ w.1 14 0 6 = iN (nW a) ∧ w.1 14 0 7 = iN (nH a)
theorem cK.fr {j : Nat} {a : Nat → Nat} {P : Nat → Int32} {w w' : z_W} (h : cK j a P w) (hf : ∀ g i k, g = 9 ∨ g = 10 → w'.1 g i k = w.1 g i k) : cK j a P w' :=
  ⟨fun f h1 h2 => (hf 9 _ _ (Or.inl rfl)).trans (h.1 f h1 h2), fun q hq => (hf 10 _ _ (Or.inr rfl)).trans (h.2 q hq)⟩
theorem cL.fr {a : Nat → Nat} {w w' : z_W} (h : cL a w) (hf : ∀ i k, w'.1 14 i k = w.1 14 i k) : cL a w' :=
  ⟨(hf 0 3).trans h.1, (hf 0 4).trans h.2.1, (hf 0 5).trans h.2.2.1, (hf 0 6).trans h.2.2.2.1, (hf 0 7).trans h.2.2.2.2⟩
theorem k_cellWidth {t : Nat} {w : z_W} {Q : z_W → Option z_V → Prop} (h : w.1 14 0 3 = iN t) (ht : t = 0 ∨ t = 1) (hq : Q w (some (zI (iN (if t = 0 then 4 else 3))))) : z_C sC zM zCr kT_cellWidth (0, [some (zR 14 0)], [], w) Q := by
  refine z_C.go 1 rfl ?_
  refine z_C.ld rfl rfl h ?_
  rcases ht with rfl | rfl
  · refine z_C.go 1 rfl ?_
    refine z_C.if (fun _ => ?_) (fun h => absurd (by decide) h)
    refine z_C.go 1 rfl ?_
    exact z_C.ret rfl rfl hq
  · refine z_C.go 1 rfl ?_
    refine z_C.if (fun h => absurd h (by decide)) (fun _ => ?_)
    refine z_C.go 2 rfl ?_
    exact z_C.ret rfl rfl hq
theorem k_cellHeight {t : Nat} {w : z_W} {Q : z_W → Option z_V → Prop} (h : w.1 14 0 3 = iN t) (ht : t = 0 ∨ t = 1) (hq : Q w (some (zI (iN (if t = 0 then 3 else 4))))) : z_C sC zM zCr kT_cellHeight (0, [some (zR 14 0)], [], w) Q := by
  refine z_C.go 1 rfl ?_
  refine z_C.ld rfl rfl h ?_
  rcases ht with rfl | rfl
  · refine z_C.go 1 rfl ?_
    refine z_C.if (fun _ => ?_) (fun h => absurd (by decide) h)
    refine z_C.go 1 rfl ?_
    exact z_C.ret rfl rfl hq
  · refine z_C.go 1 rfl ?_
    refine z_C.if (fun h => absurd h (by decide)) (fun _ => ?_)
    refine z_C.go 2 rfl ?_
    exact z_C.ret rfl rfl hq
def frL (w w' : z_W) : Prop := w'.2 = w.2 ∧ ∀ g i k, ¬ (g = 14 ∧ 3 ≤ k) → w'.1 g i k = w.1 g i k
theorem frL.si {w : z_W} {k : Nat} {x : Int32} (hk : 3 ≤ k) : frL w (z_si w 14 0 k x) := ⟨rfl, fun g i q hg => if_neg (fun h => hg ⟨h.1, by omega⟩)⟩
theorem frL.tr {w w' w'' : z_W} (h1 : frL w w') (h2 : frL w' w'') : frL w w'' := ⟨h2.1.trans h1.1, fun g i k hg => (h2.2 g i k hg).trans (h1.2 g i k hg)⟩
section LAY
variable {j : Nat} {w : z_W} {Q : z_W → Option z_V → Prop}
theorem lay_b (h7 : w.1 9 j 7 = iN 1) (h5 : w.1 9 j 5 = iN 1) (hq : Q (z_si (z_si (z_si (z_si (z_si w 14 0 3 1) 14 0 4 2) 14 0 5 1) 14 0 6 (2 * 3)) 14 0 7 (1 * 4)) none) : cRun kT_layOut (0, [some (zR 14 0), some (zR 9 j)], [], w) Q := by
  refine z_C.go 2 rfl ?_
  refine z_C.ld rfl rfl h7 ?_
  refine z_C.go 2 rfl ?_
  refine z_C.if (fun _ => ?_) (fun h => absurd (by first | decide | rfl) h)
  show cRun kT_layOut (17, [some (zR 14 0), some (zR 9 j)], [zR 14 0], w) Q
  refine z_C.go 2 rfl ?_
  refine z_C.go 5 rfl ?_
  refine z_C.if (fun h => absurd h (by first | decide | exact (show ¬ (1 : Int32) = 0 by decide))) (fun _ => ?_)
  show cRun kT_layOut (41, [some (zR 14 0), some (zR 9 j)], [zR 14 0], z_si w 14 0 3 1) Q
  refine z_C.go 5 rfl ?_
  refine z_C.ld rfl rfl h5 ?_
  refine z_C.go 2 rfl ?_
  refine z_C.if (fun h => absurd h (by first | decide | exact (show ¬ (1 : Int32) = 0 by decide))) (fun _ => ?_)
  show cRun kT_layOut (62, [some (zR 14 0), some (zR 9 j)], [zR 14 0], z_si (z_si w 14 0 3 1) 14 0 4 2) Q
  refine z_C.go 6 rfl ?_
  refine z_C.call rfl rfl (zC_up (C' := zC) (k_cellWidth (t := 1) (w := z_si (z_si (z_si w 14 0 3 1) 14 0 4 2) 14 0 5 1) (Q := fun w' r => w' = z_si (z_si (z_si w 14 0 3 1) 14 0 4 2) 14 0 5 1 ∧ r = some (zI (iN 3))) rfl (by decide) ⟨rfl, rfl⟩)) (fun w' r h => ?_)
  obtain ⟨rfl, rfl⟩ := h
  refine z_C.go 6 rfl ?_
  refine z_C.call rfl rfl (zC_up (C' := zC) (k_cellHeight (t := 1) (w := z_si (z_si (z_si (z_si w 14 0 3 1) 14 0 4 2) 14 0 5 1) 14 0 6 (2 * 3)) (Q := fun w' r => w' = z_si (z_si (z_si (z_si w 14 0 3 1) 14 0 4 2) 14 0 5 1) 14 0 6 (2 * 3) ∧ r = some (zI (iN 4))) rfl (by decide) ⟨rfl, rfl⟩)) (fun w' r h => ?_)
  obtain ⟨rfl, rfl⟩ := h
  refine z_C.go 2 rfl ?_
  exact z_C.ret rfl rfl hq
theorem lay_1 (h7 : w.1 9 j 7 = iN 0) (h5 : w.1 9 j 5 = iN 1) (hq : Q (z_si (z_si (z_si (z_si (z_si w 14 0 3 0) 14 0 4 1) 14 0 5 1) 14 0 6 (1 * 4)) 14 0 7 (1 * 3)) none) : cRun kT_layOut (0, [some (zR 14 0), some (zR 9 j)], [], w) Q := by
  refine z_C.go 2 rfl ?_
  refine z_C.ld rfl rfl h7 ?_
  refine z_C.go 2 rfl ?_
  refine z_C.if (fun h => absurd h (by first | decide | exact (show ¬ (1 : Int32) = 0 by decide))) (fun _ => ?_)
  show cRun kT_layOut (9, [some (zR 14 0), some (zR 9 j)], [zR 14 0], w) Q
  refine z_C.go 1 rfl ?_
  refine z_C.ld rfl rfl h5 ?_
  refine z_C.go 2 rfl ?_
  refine z_C.if (fun h => absurd h (by first | decide | exact (show ¬ (1 : Int32) = 0 by decide))) (fun _ => ?_)
  show cRun kT_layOut (21, [some (zR 14 0), some (zR 9 j)], [zR 14 0], w) Q
  refine z_C.go 1 rfl ?_
  refine z_C.go 5 rfl ?_
  refine z_C.if (fun _ => ?_) (fun h => absurd (by first | decide | rfl) h)
  show cRun kT_layOut (33, [some (zR 14 0), some (zR 9 j)], [zR 14 0], z_si w 14 0 3 0) Q
  refine z_C.go 1 rfl ?_
  refine z_C.ld rfl rfl h5 ?_
  refine z_C.go 2 rfl ?_
  refine z_C.if (fun h => absurd h (by first | decide | exact (show ¬ (1 : Int32) = 0 by decide))) (fun _ => ?_)
  show cRun kT_layOut (45, [some (zR 14 0), some (zR 9 j)], [zR 14 0], z_si w 14 0 3 0) Q
  refine z_C.go 4 rfl ?_
  refine z_C.ld rfl rfl h5 ?_
  refine z_C.go 2 rfl ?_
  refine z_C.if (fun h => absurd h (by first | decide | exact (show ¬ (1 : Int32) = 0 by decide))) (fun _ => ?_)
  show cRun kT_layOut (62, [some (zR 14 0), some (zR 9 j)], [zR 14 0], z_si (z_si w 14 0 3 0) 14 0 4 1) Q
  refine z_C.go 6 rfl ?_
  refine z_C.call rfl rfl (zC_up (C' := zC) (k_cellWidth (t := 0) (w := z_si (z_si (z_si w 14 0 3 0) 14 0 4 1) 14 0 5 1) (Q := fun w' r => w' = z_si (z_si (z_si w 14 0 3 0) 14 0 4 1) 14 0 5 1 ∧ r = some (zI (iN 4))) rfl (by decide) ⟨rfl, rfl⟩)) (fun w' r h => ?_)
  obtain ⟨rfl, rfl⟩ := h
  refine z_C.go 6 rfl ?_
  refine z_C.call rfl rfl (zC_up (C' := zC) (k_cellHeight (t := 0) (w := z_si (z_si (z_si (z_si w 14 0 3 0) 14 0 4 1) 14 0 5 1) 14 0 6 (1 * 4)) (Q := fun w' r => w' = z_si (z_si (z_si (z_si w 14 0 3 0) 14 0 4 1) 14 0 5 1) 14 0 6 (1 * 4) ∧ r = some (zI (iN 3))) rfl (by decide) ⟨rfl, rfl⟩)) (fun w' r h => ?_)
  obtain ⟨rfl, rfl⟩ := h
  refine z_C.go 2 rfl ?_
  exact z_C.ret rfl rfl hq
theorem lay_2 (h7 : w.1 9 j 7 = iN 0) (h5 : w.1 9 j 5 = iN 2) (hq : Q (z_si (z_si (z_si (z_si (z_si w 14 0 3 1) 14 0 4 2) 14 0 5 1) 14 0 6 (2 * 3)) 14 0 7 (1 * 4)) none) : cRun kT_layOut (0, [some (zR 14 0), some (zR 9 j)], [], w) Q := by
  refine z_C.go 2 rfl ?_
  refine z_C.ld rfl rfl h7 ?_
  refine z_C.go 2 rfl ?_
  refine z_C.if (fun h => absurd h (by first | decide | exact (show ¬ (1 : Int32) = 0 by decide))) (fun _ => ?_)
  show cRun kT_layOut (9, [some (zR 14 0), some (zR 9 j)], [zR 14 0], w) Q
  refine z_C.go 1 rfl ?_
  refine z_C.ld rfl rfl h5 ?_
  refine z_C.go 2 rfl ?_
  refine z_C.if (fun _ => ?_) (fun h => absurd (by first | decide | rfl) h)
  show cRun kT_layOut (17, [some (zR 14 0), some (zR 9 j)], [zR 14 0], w) Q
  refine z_C.go 2 rfl ?_
  refine z_C.go 5 rfl ?_
  refine z_C.if (fun h => absurd h (by first | decide | exact (show ¬ (1 : Int32) = 0 by decide))) (fun _ => ?_)
  show cRun kT_layOut (41, [some (zR 14 0), some (zR 9 j)], [zR 14 0], z_si w 14 0 3 1) Q
  refine z_C.go 5 rfl ?_
  refine z_C.ld rfl rfl h5 ?_
  refine z_C.go 2 rfl ?_
  refine z_C.if (fun h => absurd h (by first | decide | exact (show ¬ (1 : Int32) = 0 by decide))) (fun _ => ?_)
  show cRun kT_layOut (62, [some (zR 14 0), some (zR 9 j)], [zR 14 0], z_si (z_si w 14 0 3 1) 14 0 4 2) Q
  refine z_C.go 6 rfl ?_
  refine z_C.call rfl rfl (zC_up (C' := zC) (k_cellWidth (t := 1) (w := z_si (z_si (z_si w 14 0 3 1) 14 0 4 2) 14 0 5 1) (Q := fun w' r => w' = z_si (z_si (z_si w 14 0 3 1) 14 0 4 2) 14 0 5 1 ∧ r = some (zI (iN 3))) rfl (by decide) ⟨rfl, rfl⟩)) (fun w' r h => ?_)
  obtain ⟨rfl, rfl⟩ := h
  refine z_C.go 6 rfl ?_
  refine z_C.call rfl rfl (zC_up (C' := zC) (k_cellHeight (t := 1) (w := z_si (z_si (z_si (z_si w 14 0 3 1) 14 0 4 2) 14 0 5 1) 14 0 6 (2 * 3)) (Q := fun w' r => w' = z_si (z_si (z_si (z_si w 14 0 3 1) 14 0 4 2) 14 0 5 1) 14 0 6 (2 * 3) ∧ r = some (zI (iN 4))) rfl (by decide) ⟨rfl, rfl⟩)) (fun w' r h => ?_)
  obtain ⟨rfl, rfl⟩ := h
  refine z_C.go 2 rfl ?_
  exact z_C.ret rfl rfl hq
theorem lay_4 (h7 : w.1 9 j 7 = iN 0) (h5 : w.1 9 j 5 = iN 4) (hq : Q (z_si (z_si (z_si (z_si (z_si w 14 0 3 0) 14 0 4 2) 14 0 5 2) 14 0 6 (2 * 4)) 14 0 7 (2 * 3)) none) : cRun kT_layOut (0, [some (zR 14 0), some (zR 9 j)], [], w) Q := by
  refine z_C.go 2 rfl ?_
  refine z_C.ld rfl rfl h7 ?_
  refine z_C.go 2 rfl ?_
  refine z_C.if (fun h => absurd h (by first | decide | exact (show ¬ (1 : Int32) = 0 by decide))) (fun _ => ?_)
  show cRun kT_layOut (9, [some (zR 14 0), some (zR 9 j)], [zR 14 0], w) Q
  refine z_C.go 1 rfl ?_
  refine z_C.ld rfl rfl h5 ?_
  refine z_C.go 2 rfl ?_
  refine z_C.if (fun h => absurd h (by first | decide | exact (show ¬ (1 : Int32) = 0 by decide))) (fun _ => ?_)
  show cRun kT_layOut (21, [some (zR 14 0), some (zR 9 j)], [zR 14 0], w) Q
  refine z_C.go 1 rfl ?_
  refine z_C.go 5 rfl ?_
  refine z_C.if (fun _ => ?_) (fun h => absurd (by first | decide | rfl) h)
  show cRun kT_layOut (33, [some (zR 14 0), some (zR 9 j)], [zR 14 0], z_si w 14 0 3 0) Q
  refine z_C.go 1 rfl ?_
  refine z_C.ld rfl rfl h5 ?_
  refine z_C.go 2 rfl ?_
  refine z_C.if (fun _ => ?_) (fun h => absurd (by first | decide | rfl) h)
  show cRun kT_layOut (41, [some (zR 14 0), some (zR 9 j)], [zR 14 0], z_si w 14 0 3 0) Q
  refine z_C.go 5 rfl ?_
  refine z_C.ld rfl rfl h5 ?_
  refine z_C.go 2 rfl ?_
  refine z_C.if (fun _ => ?_) (fun h => absurd (by first | decide | rfl) h)
  show cRun kT_layOut (58, [some (zR 14 0), some (zR 9 j)], [zR 14 0], z_si (z_si w 14 0 3 0) 14 0 4 2) Q
  refine z_C.go 7 rfl ?_
  refine z_C.call rfl rfl (zC_up (C' := zC) (k_cellWidth (t := 0) (w := z_si (z_si (z_si w 14 0 3 0) 14 0 4 2) 14 0 5 2) (Q := fun w' r => w' = z_si (z_si (z_si w 14 0 3 0) 14 0 4 2) 14 0 5 2 ∧ r = some (zI (iN 4))) rfl (by decide) ⟨rfl, rfl⟩)) (fun w' r h => ?_)
  obtain ⟨rfl, rfl⟩ := h
  refine z_C.go 6 rfl ?_
  refine z_C.call rfl rfl (zC_up (C' := zC) (k_cellHeight (t := 0) (w := z_si (z_si (z_si (z_si w 14 0 3 0) 14 0 4 2) 14 0 5 2) 14 0 6 (2 * 4)) (Q := fun w' r => w' = z_si (z_si (z_si (z_si w 14 0 3 0) 14 0 4 2) 14 0 5 2) 14 0 6 (2 * 4) ∧ r = some (zI (iN 3))) rfl (by decide) ⟨rfl, rfl⟩)) (fun w' r h => ?_)
  obtain ⟨rfl, rfl⟩ := h
  refine z_C.go 2 rfl ?_
  exact z_C.ret rfl rfl hq
end LAY
theorem e_layOut {j nx : Nat} {a : Nat → Nat} {P : Nat → Int32} {w : z_W} {Q : z_W → Option z_V → Prop} (hj : aJob a nx) (hk : cK j a P w) (hq : ∀ w', frL w w' → cL a w' → Q w' none) : cRun kT_layOut (0, [some (zR 14 0), some (zR 9 j)], [], w) Q := by
  have h7 := hk.1 7 (by decide) (by decide)
  have h5 := hk.1 5 (by decide) (by decide)
  have fr : ∀ x3 x4 x5 x6 x7, frL w (z_si (z_si (z_si (z_si (z_si w 14 0 3 x3) 14 0 4 x4) 14 0 5 x5) 14 0 6 x6) 14 0 7 x7) := fun x3 x4 x5 x6 x7 =>
    ((((frL.si (by decide)).tr (frL.si (by decide))).tr (frL.si (by decide))).tr (frL.si (by decide))).tr (frL.si (by decide))
  rcases nLay hj with ⟨c7, c5, c1, c2, c3, -, -, c4, c6⟩ | ⟨c7, c5, c1, c2, c3, -, -, c4, c6⟩ | ⟨c7, c5, c1, c2, c3, -, -, c4, c6⟩ | ⟨c7, c5, c1, c2, c3, -, -, c4, c6⟩
  · rw [c7] at h7
    rw [c5] at h5
    refine lay_b h7 h5 (hq _ (fr _ _ _ _ _) ?_)
    unfold cL
    rw [c1, c2, c3, c4, c6]
    exact ⟨rfl, rfl, rfl, rfl, rfl⟩
  · rw [c7] at h7
    rw [c5] at h5
    refine lay_1 h7 h5 (hq _ (fr _ _ _ _ _) ?_)
    unfold cL
    rw [c1, c2, c3, c4, c6]
    exact ⟨rfl, rfl, rfl, rfl, rfl⟩
  · rw [c7] at h7
    rw [c5] at h5
    refine lay_2 h7 h5 (hq _ (fr _ _ _ _ _) ?_)
    unfold cL
    rw [c1, c2, c3, c4, c6]
    exact ⟨rfl, rfl, rfl, rfl, rfl⟩
  · rw [c7] at h7
    rw [c5] at h5
    refine lay_4 h7 h5 (hq _ (fr _ _ _ _ _) ?_)
    unfold cL
    rw [c1, c2, c3, c4, c6]
    exact ⟨rfl, rfl, rfl, rfl, rfl⟩
/-! a pixel of a page, the page of a cell -/
theorem k_pixelAt {j p y x nx : Nat} {a : Nat → Nat} {P : Nat → Int32} {w : z_W} {Q : z_W → Option z_V → Prop} (hj : aJob a nx) (hk : cK j a P w) (hp : p < 1000) (hy : y ≤ 2) (hx : x ≤ 3) (hq : Q w (some (zI (nPix P (a 8) p y x)))) :
    z_C sC zM zCr kJ_pixelAt (0, [some (zR 9 j), some (zI (iN p)), some (zI (iN y)), some (zI (iN x))], [], w) Q := by
  have h8 := hj.2.2.2.2.2.2.2.2
  have f8 := hk.1 8 (by decide) (by decide)
  have hh : iHas (w.1 9 j 8) (iN p) = if p < a 8 then 1 else 0 := by
    unfold iHas
    rw [f8]
    by_cases h : p < a 8
    · rw [if_pos h, if_pos ⟨Int32.not_lt.mp (idx_ng (by omega)), (iN_lt (by omega) (by omega)).mpr h, (iN_lt (b := 6) (by omega) (by decide)).mpr (by omega)⟩]
    · rw [if_neg h, if_neg (fun h9 => h ((iN_lt (by omega) (by omega)).mp h9.2.1))]
  unfold nPix at hq
  refine z_C.go 2 rfl ?_
  refine z_C.call rfl rfl (k_hasPage (Q := fun w' r => w' = w ∧ r = some (zI (if p < a 8 then 1 else 0))) ⟨rfl, by rw [hh]⟩) (fun w' r h => ?_)
  obtain ⟨rfl, rfl⟩ := h
  by_cases h : p < a 8
  · rw [if_pos h] at hq ⊢
    have e : iN p * 12 + iN y * 4 + iN x = iN (12 * p + 4 * y + x) := by
      have e2 : iN p * 12 = iN (12 * p) := by rw [Nat.mul_comm]; exact iN_mul p 12
      have e3 : iN y * 4 = iN (4 * y) := by rw [Nat.mul_comm]; exact iN_mul y 4
      rw [e2, e3, iN_add, iN_add]
    have i1 : z_in (iN p * 12 + iN y * 4 + iN x) 72 = true := by rw [e]; exact iN_in (by omega) (by omega)
    have n1 : w'.1 10 j (iN p * 12 + iN y * 4 + iN x).toNatClampNeg = P (12 * p + 4 * y + x) := by rw [e, iN_nat (by omega)]; exact hk.2 _ (by omega)
    refine z_C.go 1 rfl ?_
    refine z_C.if (fun h => absurd h (by decide)) (fun _ => ?_)
    refine z_C.go 11 rfl ?_
    refine z_C.ld rfl (if_pos ⟨rfl, i1⟩) n1 ?_
    refine z_C.go 1 rfl ?_
    exact z_C.ret rfl rfl hq
  · rw [if_neg h] at hq ⊢
    refine z_C.go 1 rfl ?_
    refine z_C.if (fun _ => ?_) (fun h => absurd (by decide) h)
    refine z_C.go 1 rfl ?_
    exact z_C.ret rfl rfl hq
def nSd (a : Nat → Nat) : Nat := if a 7 = 1 then 2 else if a 6 = 0 then 1 else 2
theorem iSides_n {a : Nat → Nat} {nx : Nat} (hj : aJob a nx) : iSides (iN (a 6)) (iN (a 7)) = iN (nSd a) := by
  have h6 := hj.2.2.2.2.2.1
  have h7 := hj.2.2.2.2.2.2.1
  unfold iSides nSd
  have e1 : iN (a 7) = 1 ↔ a 7 = 1 := iN_inj (b := 1) (by omega) (by decide)
  have e2 : iN (a 6) = 0 ↔ a 6 = 0 := iN_inj (b := 0) (by omega) (by decide)
  simp only [e1, e2]
  split
  · rfl
  · split <;> rfl
theorem k_sds {j nx : Nat} {a : Nat → Nat} {P : Nat → Int32} {w : z_W} {Q : z_W → Option z_V → Prop} (hj : aJob a nx) (hk : cK j a P w) (hq : Q w (some (zI (iN (nSd a))))) : z_C sC zM zCr kJ_sidesOfSheet (0, [some (zR 9 j)], [], w) Q := by
  refine k_sidesOfSheet ?_
  have h6 := hk.1 6 (by decide) (by decide)
  have h7 := hk.1 7 (by decide) (by decide)
  rw [h6, h7, iSides_n hj]
  exact hq
theorem k_shs {j nx : Nat} {a : Nat → Nat} {P : Nat → Int32} {w : z_W} {Q : z_W → Option z_V → Prop} (hj : aJob a nx) (hk : cK j a P w) (hq : Q w (some (zI (iN (nC a))))) : z_C sC zM zCr kJ_sheetsOfCopy (0, [some (zR 9 j)], [], w) Q := by
  refine k_sheetsOfCopy ?_
  have h5 := hk.1 5 (by decide) (by decide)
  have h6 := hk.1 6 (by decide) (by decide)
  have h7 := hk.1 7 (by decide) (by decide)
  have h8 := hk.1 8 (by decide) (by decide)
  rw [h5, h6, h7, h8, hj.copy.1]
  exact hq
theorem k_next {j nx t : Nat} {a : Nat → Nat} {P : Nat → Int32} {w : z_W} {Q : z_W → Option z_V → Prop} (hj : aJob a nx) (hk : cK j a P w) (ht : w.1 9 j 9 = iN t) (ht18 : t ≤ 18) (hq : Q w (some (zI (iN (t % nC a))))) : z_C sC zM zCr kJ_nextSheetOfCopy (0, [some (zR 9 j), none], [], w) Q := by
  have hN1 : 1 ≤ nC a := hj.copy.2.2.1
  have hN6 : nC a ≤ 6 := hj.copy.2.2.2
  have hN0 : ¬ iN (nC a) = 0 := fun h => by have := (iN_inj (b := 0) (by omega) (by decide)).mp h; omega
  refine z_C.go 1 rfl ?_
  refine z_C.call rfl rfl (k_shs (Q := fun w' r => w' = w ∧ r = some (zI (iN (nC a)))) hj hk ⟨rfl, rfl⟩) (fun w' r h => ?_)
  obtain ⟨rfl, rfl⟩ := h
  refine z_C.go 4 rfl ?_
  refine z_C.if (fun _ => ?_) (fun h => absurd ((iN_le (a := 1) (by decide) (by omega)).mpr hN1) h)
  refine z_C.go 1 rfl ?_
  refine z_C.ld rfl rfl ht ?_
  refine z_C.go 1 rfl ?_
  refine z_C.ld rfl (if_neg hN0) (rem_n t (by omega) (nC a) (by omega) (by omega)) ?_
  exact z_C.ret rfl rfl hq
def nPg (a : Nat → Nat) (s bk c : Nat) : Nat := if a 7 = 0 then (s * nSd a + bk) * a 5 + c else if bk = c then 4 * nC a - 1 - (2 * s + bk) else 2 * s + bk
theorem k_pageIn {j s bk c nx : Nat} {a : Nat → Nat} {P : Nat → Int32} {w : z_W} {Q : z_W → Option z_V → Prop} (hj : aJob a nx) (hk : cK j a P w) (hs : s < nC a) (hb : bk ≤ 1) (hc : c ≤ 3) (hq : Q w (some (zI (iN (nPg a s bk c))))) :
    z_C sC zM zCr kJ_pageIn (0, [some (zR 9 j), some (zI (iN s)), some (zI (iN bk)), some (zI (iN c)), none, none], [], w) Q := by
  have hN6 : nC a ≤ 6 := hj.copy.2.2.2
  have h7 := hj.2.2.2.2.2.2.1
  have f7 := hk.1 7 (by decide) (by decide)
  have f5 := hk.1 5 (by decide) (by decide)
  unfold nPg at hq
  refine z_C.go 1 rfl ?_
  refine z_C.ld rfl rfl f7 ?_
  refine z_C.go 1 rfl ?_
  refine z_C.if (fun h => ?_) (fun h => ?_)
  · have h0 : a 7 = 0 := (iN_inj (b := 0) (by omega) (by decide)).mp h
    rw [if_pos h0] at hq
    refine z_C.go 2 rfl ?_
    refine z_C.call rfl rfl (k_sds (Q := fun w' r => w' = w ∧ r = some (zI (iN (nSd a)))) hj hk ⟨rfl, rfl⟩) (fun w' r h => ?_)
    obtain ⟨rfl, rfl⟩ := h
    refine z_C.go 4 rfl ?_
    refine z_C.ld rfl rfl f5 ?_
    refine z_C.go 3 rfl ?_
    have e : (iN s * iN (nSd a) + iN bk) * iN (a 5) + iN c = iN ((s * nSd a + bk) * a 5 + c) := by rw [iN_mul, iN_add, iN_mul, iN_add]
    rw [← e] at hq
    exact z_C.ret rfl rfl hq
  · have h0 : ¬ a 7 = 0 := fun h9 => h (by rw [h9]; rfl)
    rw [if_neg h0] at hq
    refine z_C.go 8 rfl ?_
    refine z_C.call rfl rfl (k_shs (Q := fun w' r => w' = w ∧ r = some (zI (iN (nC a)))) hj hk ⟨rfl, rfl⟩) (fun w' r h => ?_)
    obtain ⟨rfl, rfl⟩ := h
    have e1 : 2 * iN s + iN bk = iN (2 * s + bk) := by rw [show 2 * iN s = iN (2 * s) from iN_mul 2 s, iN_add]
    have e2 : 4 * iN (nC a) - 1 - (2 * iN s + iN bk) = iN (4 * nC a - 1 - (2 * s + bk)) := by
      rw [e1, show 4 * iN (nC a) = iN (4 * nC a) from iN_mul 4 _, show iN (4 * nC a) - 1 = iN (4 * nC a - 1) from iN_sub (b := 1) (by omega)]
      exact iN_sub (by omega)
    refine z_C.go 9 rfl ?_
    refine z_C.if (fun h => ?_) (fun h => ?_)
    · rw [if_pos ((iN_inj (by omega) (by omega)).mp h), ← e2] at hq
      refine z_C.go 2 rfl ?_
      exact z_C.ret rfl rfl hq
    · rw [if_neg (fun h9 => h ((iN_inj (by omega) (by omega)).mpr h9)), ← e1] at hq
      refine z_C.go 1 rfl ?_
      exact z_C.ret rfl rfl hq
