/-! the class fills a side -/
theorem nPix_eq {P : Nat → Int32} {pg p p' r r' c c' : Nat} (h1 : p = p') (h2 : r = r') (h3 : c = c') : nPix P pg p r c = nPix P pg p' r' c' := by rw [h1, h2, h3]
def cQ (a : Nat → Nat) (y0 x0 y x : Nat) : Nat := y0 * nCh a * nW a + x0 * nCw a + y * nW a + x
theorem cQ_lt {a : Nat → Nat} {nx y0 x0 y x : Nat} (hj : aJob a nx) (hy0 : y0 < nRows a) (hx0 : x0 < nCols a) (hy : y < nCh a) (hx : x < nCw a) : cQ a y0 x0 y x < 48 := by
  unfold cQ
  rcases nLay hj with ⟨-, -, -, c2, c3, c4, c5, c6, -⟩ | ⟨-, -, -, c2, c3, c4, c5, c6, -⟩ | ⟨-, -, -, c2, c3, c4, c5, c6, -⟩ | ⟨-, -, -, c2, c3, c4, c5, c6, -⟩ <;> rw [c4, c5, c6] <;> omega
theorem cell_val {a : Nat → Nat} {P : Nat → Int32} {nx s bk y0 x0 y x : Nat} (hj : aJob a nx) (hs : s < nC a) (hb : bk ≤ 1) (hb0 : a 6 = 0 → a 7 = 0 → bk = 0) (hy0 : y0 < nRows a) (hx0 : x0 < nCols a) (hy : y < nCh a) (hx : x < nCw a) :
    nF0 a P s bk (cQ a y0 x0 y x / nW a) (cQ a y0 x0 y x % nW a) = if nTn a = 0 then nPix P (a 8) (nPg a s bk (y0 * nCols a + x0)) y x else nPix P (a 8) (nPg a s bk (y0 * nCols a + x0)) (2 - x) y := by
  have num : a 7 = 0 → s * nSd a + bk = if a 6 = 0 then s else 2 * s + bk := by
    intro h7
    unfold nSd
    rw [if_neg (by omega)]
    by_cases h6 : a 6 = 0
    · rw [if_pos h6, if_pos h6, hb0 h6 h7]
      omega
    · rw [if_neg h6, if_neg h6]
      omega
  unfold cQ nF0 nPg
  rcases nLay hj with ⟨c7, c0, c1, c2, c3, c4, c5, c6, -⟩ | ⟨c7, c0, c1, c2, c3, c4, c5, c6, -⟩ | ⟨c7, c0, c1, c2, c3, c4, c5, c6, -⟩ | ⟨c7, c0, c1, c2, c3, c4, c5, c6, -⟩
  · rw [c2] at hx0
    rw [c3] at hy0
    rw [c4] at hx
    rw [c5] at hy
    have hy00 : y0 = 0 := by omega
    subst hy00
    rw [c1, c2, c4, c5, c6, if_pos c7, if_neg (show ¬ (1 = 0) by decide), if_neg (show ¬ a 7 = 0 by omega)]
    rw [show (0 * 4 * 6 + x0 * 3 + y * 6 + x) / 6 = y by omega, show (0 * 4 * 6 + x0 * 3 + y * 6 + x) % 6 = x0 * 3 + x by omega]
    unfold nBook nPair
    have hx01 : x0 = 0 ∨ x0 = 1 := by omega
    have hb01 : bk = 0 ∨ bk = 1 := by omega
    rcases hb01 with rfl | rfl
    · rw [if_pos rfl]
      rcases hx01 with rfl | rfl
      · rw [if_pos (by omega), if_pos (by omega)]
        exact nPix_eq (by omega) (by omega) rfl
      · rw [if_neg (by omega), if_neg (by omega)]
        exact nPix_eq (by omega) (by omega) rfl
    · rw [if_neg (by decide)]
      rcases hx01 with rfl | rfl
      · rw [if_pos (by omega), if_neg (by omega)]
        exact nPix_eq (by omega) (by omega) rfl
      · rw [if_neg (by omega), if_pos (by omega)]
        exact nPix_eq (by omega) (by omega) rfl
  · rw [c2] at hx0
    rw [c3] at hy0
    rw [c4] at hx
    rw [c5] at hy
    rw [c1, c2, c4, c5, c6, if_neg (show ¬ a 7 = 1 by omega), if_pos rfl, if_pos c7, num c7, c0]
    rw [show (y0 * 3 * 4 + x0 * 4 + y * 4 + x) / 4 = y by omega, show (y0 * 3 * 4 + x0 * 4 + y * 4 + x) % 4 = x by omega]
    unfold nPlain
    rw [if_pos rfl]
    exact nPix_eq (by omega) rfl rfl
  · rw [c2] at hx0
    rw [c3] at hy0
    rw [c4] at hx
    rw [c5] at hy
    have hy00 : y0 = 0 := by omega
    subst hy00
    rw [c1, c2, c4, c5, c6, if_neg (show ¬ a 7 = 1 by omega), if_neg (show ¬ (1 = 0) by decide), if_pos c7, num c7, c0]
    rw [show (0 * 4 * 6 + x0 * 3 + y * 6 + x) / 6 = y by omega, show (0 * 4 * 6 + x0 * 3 + y * 6 + x) % 6 = x0 * 3 + x by omega]
    unfold nPlain nPair
    rw [if_neg (by decide), if_pos rfl]
    have hx01 : x0 = 0 ∨ x0 = 1 := by omega
    generalize (if a 6 = 0 then s else 2 * s + bk) = n
    rcases hx01 with rfl | rfl
    · rw [if_pos (by omega)]
      exact nPix_eq (by omega) (by omega) rfl
    · rw [if_neg (by omega)]
      exact nPix_eq (by omega) (by omega) rfl
  · rw [c2] at hx0
    rw [c3] at hy0
    rw [c4] at hx
    rw [c5] at hy
    rw [c1, c2, c4, c5, c6, if_neg (show ¬ a 7 = 1 by omega), if_pos rfl, if_pos c7, num c7, c0]
    rw [show (y0 * 3 * 8 + x0 * 4 + y * 8 + x) / 8 = y0 * 3 + y by omega, show (y0 * 3 * 8 + x0 * 4 + y * 8 + x) % 8 = x0 * 4 + x by omega]
    unfold nPlain
    rw [if_neg (by decide), if_neg (by decide)]
    generalize (if a 6 = 0 then s else 2 * s + bk) = n
    exact nPix_eq (by omega) (by omega) (by omega)
theorem cQ_sur {a : Nat → Nat} {nx q : Nat} (hj : aJob a nx) (hq : q < nW a * nH a) : ∃ y0 x0 y x, y0 < nRows a ∧ x0 < nCols a ∧ y < nCh a ∧ x < nCw a ∧ q = cQ a y0 x0 y x := by
  unfold cQ
  rcases nLay hj with ⟨-, -, -, c2, c3, c4, c5, c6, c8⟩ | ⟨-, -, -, c2, c3, c4, c5, c6, c8⟩ | ⟨-, -, -, c2, c3, c4, c5, c6, c8⟩ | ⟨-, -, -, c2, c3, c4, c5, c6, c8⟩
  · rw [c6, c8] at hq
    rw [c2, c3, c4, c5, c6]
    exact ⟨0, (q % 6) / 3, q / 6, (q % 6) % 3, by omega, by omega, by omega, by omega, by omega⟩
  · rw [c6, c8] at hq
    rw [c2, c3, c4, c5, c6]
    exact ⟨0, 0, q / 4, q % 4, by omega, by omega, by omega, by omega, by omega⟩
  · rw [c6, c8] at hq
    rw [c2, c3, c4, c5, c6]
    exact ⟨0, (q % 6) / 3, q / 6, (q % 6) % 3, by omega, by omega, by omega, by omega, by omega⟩
  · rw [c6, c8] at hq
    rw [c2, c3, c4, c5, c6]
    exact ⟨(q / 8) / 3, (q % 8) / 4, (q / 8) % 3, (q % 8) % 4, by omega, by omega, by omega, by omega, by omega⟩
def fr15 (w w' : z_W) : Prop := w'.2 = w.2 ∧ ∀ g i k, ¬ g = 15 → w'.1 g i k = w.1 g i k
theorem fr15.rf (w : z_W) : fr15 w w := ⟨rfl, fun _ _ _ _ => rfl⟩
theorem fr15.tr {w w' w'' : z_W} (h1 : fr15 w w') (h2 : fr15 w' w'') : fr15 w w'' := ⟨h2.1.trans h1.1, fun g i k hg => (h2.2 g i k hg).trans (h1.2 g i k hg)⟩
theorem fr15.si {w : z_W} {k : Nat} {x : Int32} : fr15 w (z_si w 15 0 k x) := ⟨rfl, fun g i q hg => if_neg (fun h => hg h.1)⟩
theorem cK.f15 {j : Nat} {a : Nat → Nat} {P : Nat → Int32} {w w' : z_W} (h : cK j a P w) (hf : fr15 w w') : cK j a P w' := h.fr (fun g i k hg => hf.2 g i k (by omega))
theorem cL.f15 {a : Nat → Nat} {w w' : z_W} (h : cL a w) (hf : fr15 w w') : cL a w' := h.fr (fun i k => hf.2 14 i k (by decide))
section FILL
variable {j nx s bk p y0 x0 : Nat} {a : Nat → Nat} {P F : Nat → Int32} {Q : z_W → Option z_V → Prop}
/-- one row of a cell -/
theorem e_c36 {y : Nat} {D : Nat → Prop} {W0 : z_W} (hj : aJob a nx) (hk : cK j a P W0) (hl : cL a W0) (hp : p < 1000) (hy0 : y0 < nRows a) (hx0 : x0 < nCols a) (hy : y < nCh a)
    (hF : ∀ x, x < nCw a → F (cQ a y0 x0 y x) = if nTn a = 0 then nPix P (a 8) p y x else nPix P (a 8) p (2 - x) y)
    (K : ∀ w, fr15 W0 w → (∀ q, (D q ∨ ∃ x, x < nCw a ∧ q = cQ a y0 x0 y x) → w.1 15 0 q = F q) → ∀ z, cRun kT_fillCell (24, [some (zR 14 0), some (zR 9 j), some (zI (iN p)), some (zI (iN x0)), some (zI (iN y0)), some (zI (iN (y0 * nCh a * nW a + x0 * nCw a))), some (zI (iN (y + 1))), z], [], w) Q) :
    ∀ (d x : Nat) (w : z_W), x + d = nCw a → fr15 W0 w → (∀ q, (D q ∨ ∃ x', x' < x ∧ q = cQ a y0 x0 y x') → w.1 15 0 q = F q) →
    cRun kT_fillCell (36, [some (zR 14 0), some (zR 9 j), some (zI (iN p)), some (zI (iN x0)), some (zI (iN y0)), some (zI (iN (y0 * nCh a * nW a + x0 * nCw a))), some (zI (iN y)), some (zI (iN x))], [], w) Q := by
  have htn : nTn a = 0 ∨ nTn a = 1 := by rcases nLay hj with h | h | h | h <;> omega
  have hcw : nCw a ≤ 4 ∧ nCh a ≤ 4 ∧ nTn a = 0 ∧ nCw a = 4 ∧ nCh a = 3 ∨ nCw a ≤ 4 ∧ nCh a ≤ 4 ∧ nTn a = 1 ∧ nCw a = 3 ∧ nCh a = 4 := by rcases nLay hj with h | h | h | h <;> omega
  have ecw : iN (if nTn a = 0 then 4 else 3) = iN (nCw a) := rfl
  intro d
  induction d with
  | zero =>
    intro x w hx hf hD
    refine z_C.go 2 rfl ?_
    refine z_C.call rfl rfl (zC_up (C' := zC) (k_cellWidth (t := nTn a) (Q := fun w' r => w' = w ∧ r = some (zI (iN (nCw a)))) (hl.f15 hf).1 htn ⟨rfl, rfl⟩)) (fun w' r h => ?_)
    obtain ⟨rfl, rfl⟩ := h
    refine z_C.go 1 rfl ?_
    refine z_C.if (fun _ => ?_) (fun h => absurd ((iN_le (by omega) (by omega)).mpr (by omega)) h)
    refine z_C.go 2 rfl ?_
    have k9 := K w' hf (by rw [← show x = nCw a by omega]; exact hD) (some (zI (iN x)))
    rw [← iN_add y 1] at k9
    exact k9
  | succ d ih =>
    intro x w hx hf hD
    have hl' := hl.f15 hf
    have hk' := hk.f15 hf
    have b := cQ_lt hj hy0 hx0 hy (show x < nCw a by omega)
    have e : iN (y0 * nCh a * nW a + x0 * nCw a) + iN y * w.1 14 0 6 + iN x = iN (cQ a y0 x0 y x) := by rw [hl'.2.2.2.1, iN_mul, iN_add, iN_add]; rfl
    have i1 : z_in (iN (y0 * nCh a * nW a + x0 * nCw a) + iN y * w.1 14 0 6 + iN x) 48 = true := by rw [e]; exact iN_in b (by omega)
    have n1 : (iN (y0 * nCh a * nW a + x0 * nCw a) + iN y * w.1 14 0 6 + iN x).toNatClampNeg = cQ a y0 x0 y x := by rw [e]; exact iN_nat (by omega)
    have hFx := hF x (by omega)
    have nxt := ih (x + 1) (z_si w 15 0 (iN (y0 * nCh a * nW a + x0 * nCw a) + iN y * w.1 14 0 6 + iN x).toNatClampNeg (F (cQ a y0 x0 y x))) (by omega) (hf.tr fr15.si) (fun q hq => by
      show (if 15 = 15 ∧ 0 = 0 ∧ q = _ then F (cQ a y0 x0 y x) else w.1 15 0 q) = F q
      rw [n1]
      by_cases e9 : q = cQ a y0 x0 y x
      · rw [if_pos ⟨rfl, rfl, e9⟩, e9]
      · rw [if_neg (fun h => e9 h.2.2)]
        refine hD q ?_
        rcases hq with hq | ⟨x', h1, h2⟩
        · exact Or.inl hq
        · refine Or.inr ⟨x', ?_, h2⟩
          have : x' ≠ x := fun e8 => e9 (by rw [h2, e8])
          omega)
    rw [← iN_add x 1] at nxt
    refine z_C.go 2 rfl ?_
    refine z_C.call rfl rfl (zC_up (C' := zC) (k_cellWidth (t := nTn a) (Q := fun w' r => w' = w ∧ r = some (zI (iN (nCw a)))) hl'.1 htn ⟨rfl, rfl⟩)) (fun w' r h => ?_)
    obtain ⟨rfl, rfl⟩ := h
    refine z_C.go 1 rfl ?_
    refine z_C.if (fun h => absurd ((iN_le (by omega) (by omega)).mp h) (by omega)) (fun _ => ?_)
    refine z_C.go 11 rfl ?_
    refine z_C.ld rfl rfl hl'.1 ?_
    refine z_C.go 1 rfl ?_
    rcases hcw with ⟨-, -, t0, t1, t2⟩ | ⟨-, -, t0, t1, t2⟩
    · rw [if_pos t0] at hFx
      refine z_C.if (fun _ => ?_) (fun h => absurd (by rw [t0]; rfl) h)
      refine z_C.go 4 rfl ?_
      refine z_C.call rfl rfl (zC_up (C' := zC) (k_pixelAt (p := p) (y := y) (x := x) (Q := fun w2 r => w2 = w' ∧ r = some (zI (F (cQ a y0 x0 y x)))) hj hk' hp (by omega) (by omega) ⟨rfl, by rw [hFx]⟩)) (fun w2 r h => ?_)
      obtain ⟨rfl, rfl⟩ := h
      refine z_C.go1 rfl (if_pos ⟨rfl, i1⟩) ?_
      refine z_C.go 2 rfl ?_
      exact nxt
    · rw [if_neg (by omega)] at hFx
      refine z_C.if (fun h => absurd h (by rw [t0]; decide)) (fun _ => ?_)
      refine z_C.go 6 rfl ?_
      rw [show 2 - iN x = iN (2 - x) from iN_sub (a := 2) (by omega)]
      refine z_C.call rfl rfl (zC_up (C' := zC) (k_pixelAt (p := p) (y := 2 - x) (x := y) (Q := fun w2 r => w2 = w' ∧ r = some (zI (F (cQ a y0 x0 y x)))) hj hk' hp (by omega) (by omega) ⟨rfl, by rw [hFx]⟩)) (fun w2 r h => ?_)
      obtain ⟨rfl, rfl⟩ := h
      refine z_C.go 1 rfl ?_
      refine z_C.go1 rfl (if_pos ⟨rfl, i1⟩) ?_
      refine z_C.go 2 rfl ?_
      exact nxt
theorem e_c24 {D : Nat → Prop} {W0 : z_W} (hj : aJob a nx) (hk : cK j a P W0) (hl : cL a W0) (hp : p < 1000) (hy0 : y0 < nRows a) (hx0 : x0 < nCols a)
    (hF : ∀ y x, y < nCh a → x < nCw a → F (cQ a y0 x0 y x) = if nTn a = 0 then nPix P (a 8) p y x else nPix P (a 8) p (2 - x) y)
    (K : ∀ w, fr15 W0 w → (∀ q, (D q ∨ ∃ y x, y < nCh a ∧ x < nCw a ∧ q = cQ a y0 x0 y x) → w.1 15 0 q = F q) → Q w none) :
    ∀ (d y : Nat) (w : z_W) (z : Option z_V), y + d = nCh a → fr15 W0 w → (∀ q, (D q ∨ ∃ y' x, y' < y ∧ x < nCw a ∧ q = cQ a y0 x0 y' x) → w.1 15 0 q = F q) →
    cRun kT_fillCell (24, [some (zR 14 0), some (zR 9 j), some (zI (iN p)), some (zI (iN x0)), some (zI (iN y0)), some (zI (iN (y0 * nCh a * nW a + x0 * nCw a))), some (zI (iN y)), z], [], w) Q := by
  have htn : nTn a = 0 ∨ nTn a = 1 := by rcases nLay hj with h | h | h | h <;> omega
  have hch : nCh a ≤ 4 := by rcases nLay hj with h | h | h | h <;> omega
  intro d
  induction d with
  | zero =>
    intro y w z hy hf hD
    refine z_C.go 2 rfl ?_
    refine z_C.call rfl rfl (zC_up (C' := zC) (k_cellHeight (t := nTn a) (Q := fun w' r => w' = w ∧ r = some (zI (iN (nCh a)))) (hl.f15 hf).1 htn ⟨rfl, rfl⟩)) (fun w' r h => ?_)
    obtain ⟨rfl, rfl⟩ := h
    refine z_C.go 1 rfl ?_
    refine z_C.if (fun _ => ?_) (fun h => absurd ((iN_le (by omega) (by omega)).mpr (by omega)) h)
    exact z_C.ret rfl rfl (K w' hf (by rw [← show y = nCh a by omega]; exact hD))
  | succ d ih =>
    intro y w z hy hf hD
    refine z_C.go 2 rfl ?_
    refine z_C.call rfl rfl (zC_up (C' := zC) (k_cellHeight (t := nTn a) (Q := fun w' r => w' = w ∧ r = some (zI (iN (nCh a)))) (hl.f15 hf).1 htn ⟨rfl, rfl⟩)) (fun w' r h => ?_)
    obtain ⟨rfl, rfl⟩ := h
    refine z_C.go 1 rfl ?_
    refine z_C.if (fun h => absurd ((iN_le (by omega) (by omega)).mp h) (by omega)) (fun _ => ?_)
    refine z_C.go 2 rfl ?_
    refine e_c36 (W0 := W0) (D := fun q => D q ∨ ∃ y' x, y' < y ∧ x < nCw a ∧ q = cQ a y0 x0 y' x) hj hk hl hp hy0 hx0 (by omega) (fun x hx => hF y x (by omega) hx) (fun w2 hf2 hD2 z2 => ih (y + 1) w2 z2 (by omega) hf2 (fun q hq => hD2 q ?_)) (nCw a) 0 w' (by omega) hf (fun q hq => hD q ?_)
    · rcases hq with hq | ⟨y', x, h1, h2, h3⟩
      · exact Or.inl (Or.inl hq)
      · by_cases e : y' = y
        · subst e
          exact Or.inr ⟨x, h2, h3⟩
        · exact Or.inl (Or.inr ⟨y', x, by omega, h2, h3⟩)
    · rcases hq with hq | ⟨x', h1, -⟩
      · exact hq
      · omega
theorem e_fillCell {D : Nat → Prop} {w : z_W} (hj : aJob a nx) (hk : cK j a P w) (hl : cL a w) (hp : p < 1000) (hy0 : y0 < nRows a) (hx0 : x0 < nCols a)
    (hF : ∀ y x, y < nCh a → x < nCw a → F (cQ a y0 x0 y x) = if nTn a = 0 then nPix P (a 8) p y x else nPix P (a 8) p (2 - x) y) (hD : ∀ q, D q → w.1 15 0 q = F q)
    (K : ∀ w', fr15 w w' → (∀ q, (D q ∨ ∃ y x, y < nCh a ∧ x < nCw a ∧ q = cQ a y0 x0 y x) → w'.1 15 0 q = F q) → Q w' none) :
    cRun kT_fillCell (0, [some (zR 14 0), some (zR 9 j), some (zI (iN p)), some (zI (iN x0)), some (zI (iN y0)), none, none, none], [], w) Q := by
  have htn : nTn a = 0 ∨ nTn a = 1 := by rcases nLay hj with h | h | h | h <;> omega
  refine z_C.go 2 rfl ?_
  refine z_C.call rfl rfl (zC_up (C' := zC) (k_cellHeight (t := nTn a) (Q := fun w' r => w' = w ∧ r = some (zI (iN (nCh a)))) hl.1 htn ⟨rfl, rfl⟩)) (fun w' r h => ?_)
  obtain ⟨rfl, rfl⟩ := h
  refine z_C.go 6 rfl ?_
  refine z_C.call rfl rfl (zC_up (C' := zC) (k_cellWidth (t := nTn a) (Q := fun w2 r => w2 = w' ∧ r = some (zI (iN (nCw a)))) hl.1 htn ⟨rfl, rfl⟩)) (fun w2 r h => ?_)
  obtain ⟨rfl, rfl⟩ := h
  refine z_C.go 5 rfl ?_
  have k9 := e_c24 (W0 := w2) (D := D) hj hk hl hp hy0 hx0 hF K (nCh a) 0 w2 none (by omega) (fr15.rf _) (fun q hq => by
    rcases hq with hq | ⟨y', x, h1, -⟩
    · exact hD q hq
    · omega)
  have e : iN (y0 * nCh a * nW a + x0 * nCw a) = iN y0 * iN (nCh a) * w2.1 14 0 6 + iN x0 * iN (nCw a) := by rw [hl.2.2.2.1, iN_mul, iN_mul, iN_mul, iN_add]
  rw [e] at k9
  exact k9
end FILL
/-- turned by half -/
theorem e_turn_loop {B : Nat} {W0 : z_W} {Q : z_W → Option z_V → Prop} (hB : B ≤ 48) (h2 : B = 2 * (B / 2)) (h1 : 1 ≤ B) (K : ∀ w, fr15 W0 w → (∀ q, q < B → w.1 15 0 q = W0.1 15 0 (B - 1 - q)) → Q w none) : ∀ (d i : Nat) (w : z_W) (z : Option z_V), i + d = B / 2 → fr15 W0 w →
    (∀ q, q < B → w.1 15 0 q = if q < i ∨ B - 1 - i < q then W0.1 15 0 (B - 1 - q) else W0.1 15 0 q) →
    cRun kT_turnSideByHalf (26, [some (zR 14 0), some (zI (iN (B - 1))), some (zI (iN (B / 2))), some (zI (iN i)), z], [], w) Q := by
  intro d
  induction d with
  | zero =>
    intro i w z hi hf hv
    refine z_C.go 3 rfl ?_
    refine z_C.if (fun _ => ?_) (fun h => absurd ((iN_le (by omega) (by omega)).mpr (by omega)) h)
    refine z_C.ret rfl rfl (K w hf (fun q hq => ?_))
    rw [hv q hq, if_pos (by omega)]
  | succ d ih =>
    intro i w z hi hf hv
    have e1 : iN (B - 1) - iN i = iN (B - 1 - i) := iN_sub (by omega)
    have i1 : z_in (iN i) 48 = true := iN_in (by omega) (by omega)
    have i2 : z_in (iN (B - 1) - iN i) 48 = true := by rw [e1]; exact iN_in (by omega) (by omega)
    have n1 : (iN i).toNatClampNeg = i := iN_nat (by omega)
    have n2 : (iN (B - 1) - iN i).toNatClampNeg = B - 1 - i := by rw [e1]; exact iN_nat (by omega)
    refine z_C.go 3 rfl ?_
    refine z_C.if (fun h => absurd ((iN_le (by omega) (by omega)).mp h) (by omega)) (fun _ => ?_)
    refine z_C.go 3 rfl ?_
    refine z_C.go1 rfl (if_pos ⟨rfl, i1⟩) ?_
    refine z_C.go 9 rfl ?_
    refine z_C.go1 rfl (if_pos ⟨rfl, i2⟩) ?_
    refine z_C.go1 rfl (if_pos ⟨rfl, i1⟩) ?_
    refine z_C.go 6 rfl ?_
    refine z_C.go1 rfl (if_pos ⟨rfl, i2⟩) ?_
    refine z_C.go 2 rfl ?_
    have k9 := ih (i + 1) (z_si (z_si w 15 0 (iN i).toNatClampNeg (w.1 15 0 (iN (B - 1) - iN i).toNatClampNeg)) 15 0 (iN (B - 1) - iN i).toNatClampNeg (w.1 15 0 (iN i).toNatClampNeg)) (some (zI (w.1 15 0 (iN i).toNatClampNeg))) (by omega) (hf.tr (fr15.si.tr fr15.si)) (fun q hq => by
      show (if 15 = 15 ∧ 0 = 0 ∧ q = (iN (B - 1) - iN i).toNatClampNeg then w.1 15 0 (iN i).toNatClampNeg else if 15 = 15 ∧ 0 = 0 ∧ q = (iN i).toNatClampNeg then w.1 15 0 (iN (B - 1) - iN i).toNatClampNeg else w.1 15 0 q) = _
      rw [n1, n2]
      by_cases ea : q = B - 1 - i
      · have e8 : w.1 15 0 i = W0.1 15 0 i := (hv i (by omega)).trans (if_neg (by omega))
        rw [if_pos ⟨rfl, rfl, ea⟩, e8, if_pos (show q < i + 1 ∨ B - 1 - (i + 1) < q by omega), show B - 1 - q = i by omega]
      · rw [if_neg (fun h => ea h.2.2)]
        by_cases eb : q = i
        · have e8 : w.1 15 0 (B - 1 - i) = W0.1 15 0 (B - 1 - i) := (hv (B - 1 - i) (by omega)).trans (if_neg (by omega))
          rw [if_pos ⟨rfl, rfl, eb⟩, e8, if_pos (show q < i + 1 ∨ B - 1 - (i + 1) < q by omega), show B - 1 - q = B - 1 - i by omega]
        · rw [if_neg (fun h => eb h.2.2), hv q hq]
          by_cases ec : q < i ∨ B - 1 - i < q
          · rw [if_pos ec, if_pos (by omega)]
          · rw [if_neg ec, if_neg (by omega)])
    rw [← iN_add i 1] at k9
    exact k9
theorem e_turn {W H : Nat} {w : z_W} {Q : z_W → Option z_V → Prop} (h6 : w.1 14 0 6 = iN W) (h7 : w.1 14 0 7 = iN H) (hWH : W * H = 12 ∨ W * H = 24 ∨ W * H = 48) (K : ∀ w', fr15 w w' → (∀ q, q < W * H → w'.1 15 0 q = w.1 15 0 (W * H - 1 - q)) → Q w' none) :
    cRun kT_turnSideByHalf (0, [some (zR 14 0), none, none, none, none], [], w) Q := by
  have e0 : w.1 14 0 6 * w.1 14 0 7 = iN (W * H) := by rw [h6, h7, iN_mul]
  have e1 : w.1 14 0 6 * w.1 14 0 7 - 1 = iN (W * H - 1) := by rw [e0]; exact iN_sub (b := 1) (by omega)
  have e2 : w.1 14 0 6 * w.1 14 0 7 / 2 = iN (W * H / 2) := by
    rw [e0]
    rcases hWH with h | h | h <;> rw [h] <;> decide
  refine z_C.go 18 rfl ?_
  have k9 := e_turn_loop (B := W * H) (W0 := w) (by omega) (by omega) (by omega) K (W * H / 2) 0 w none (by omega) (fr15.rf w) (fun q hq => by rw [if_neg (by omega)])
  rw [← e1, ← e2] at k9
  exact k9
