/-! the class sends a sheet -/
theorem nSd_b (a : Nat → Nat) : nSd a = 1 ∨ nSd a = 2 := by
  unfold nSd
  split
  · exact Or.inr rfl
  · split
    · exact Or.inl rfl
    · exact Or.inr rfl
theorem nPg_lt {a : Nat → Nat} {nx s bk c : Nat} (hj : aJob a nx) (hs : s < nC a) (hb : bk ≤ 1) (hc : c ≤ 3) : nPg a s bk c < 1000 := by
  have hN6 : nC a ≤ 6 := hj.copy.2.2.2
  have h5 := hj.2.2.2.2.1
  unfold nPg
  split
  · rcases nSd_b a with h | h <;> rcases h5 with h5 | h5 | h5 <;> rw [h, h5] <;> omega
  · split <;> omega
section FS
variable {j nx s bk : Nat} {a : Nat → Nat} {P : Nat → Int32} {Q : z_W → Option z_V → Prop}
def nF (a : Nat → Nat) (P : Nat → Int32) (s bk q : Nat) : Int32 := nF0 a P s bk (q / nW a) (q % nW a)
def inC (a : Nat → Nat) (y0 x0 q : Nat) : Prop := ∃ y x, y < nCh a ∧ x < nCw a ∧ q = cQ a y0 x0 y x
theorem e_f20 {y0 : Nat} {D : Nat → Prop} {W0 : z_W} (hj : aJob a nx) (hk : cK j a P W0) (hl : cL a W0) (hs : s < nC a) (hb : bk ≤ 1) (hb0 : a 6 = 0 → a 7 = 0 → bk = 0) (hy0 : y0 < nRows a)
    (K : ∀ w, fr15 W0 w → (∀ q, (D q ∨ ∃ x0, x0 < nCols a ∧ inC a y0 x0 q) → w.1 15 0 q = nF a P s bk q) → ∀ z, cRun kT_fillSide (8, [some (zR 14 0), some (zR 9 j), some (zI (iN bk)), some (zI (iN s)), some (zI (iN (y0 + 1))), z], [], w) Q) :
    ∀ (d x0 : Nat) (w : z_W), x0 + d = nCols a → fr15 W0 w → (∀ q, (D q ∨ ∃ x', x' < x0 ∧ inC a y0 x' q) → w.1 15 0 q = nF a P s bk q) →
    cRun kT_fillSide (20, [some (zR 14 0), some (zR 9 j), some (zI (iN bk)), some (zI (iN s)), some (zI (iN y0)), some (zI (iN x0))], [], w) Q := by
  have hcr : nCols a ≤ 2 ∧ nRows a ≤ 2 ∧ y0 * nCols a + nCols a ≤ 4 := by rcases nLay hj with h | h | h | h <;> obtain ⟨-, -, -, h2, h3, -⟩ := h <;> rw [h2, h3] <;> rw [h3] at hy0 <;> omega
  intro d
  induction d with
  | zero =>
    intro x0 w hx hf hD
    have hl' := hl.f15 hf
    refine z_C.go 2 rfl ?_
    refine z_C.ld rfl rfl hl'.2.1 ?_
    refine z_C.go 1 rfl ?_
    refine z_C.if (fun _ => ?_) (fun h => absurd ((iN_le (by omega) (by omega)).mpr (by omega)) h)
    refine z_C.go 2 rfl ?_
    have k9 := K w hf (by rw [← show x0 = nCols a by omega]; exact hD) (some (zI (iN x0)))
    rw [← iN_add y0 1] at k9
    exact k9
  | succ d ih =>
    intro x0 w hx hf hD
    have hl' := hl.f15 hf
    have hk' := hk.f15 hf
    have ec : iN y0 * iN (nCols a) + iN x0 = iN (y0 * nCols a + x0) := by rw [iN_mul, iN_add]
    refine z_C.go 2 rfl ?_
    refine z_C.ld rfl rfl hl'.2.1 ?_
    refine z_C.go 1 rfl ?_
    refine z_C.if (fun h => absurd ((iN_le (by omega) (by omega)).mp h) (by omega)) (fun _ => ?_)
    refine z_C.go 7 rfl ?_
    refine z_C.ld rfl rfl hl'.2.1 ?_
    refine z_C.go 3 rfl ?_
    rw [ec]
    refine z_C.call rfl rfl (zC_up (C' := zC) (k_pageIn (s := s) (bk := bk) (c := y0 * nCols a + x0) (Q := fun w' r => w' = w ∧ r = some (zI (iN (nPg a s bk (y0 * nCols a + x0))))) hj hk' hs hb (by omega) ⟨rfl, rfl⟩)) (fun w' r h => ?_)
    obtain ⟨rfl, rfl⟩ := h
    refine z_C.go 2 rfl ?_
    refine z_C.call rfl rfl (e_fillCell (p := nPg a s bk (y0 * nCols a + x0)) (y0 := y0) (x0 := x0) (F := nF a P s bk) (D := fun q => D q ∨ ∃ x', x' < x0 ∧ inC a y0 x' q) (Q := fun w2 r => r = none ∧ fr15 w' w2 ∧ ∀ q, ((D q ∨ ∃ x', x' < x0 ∧ inC a y0 x' q) ∨ ∃ y x, y < nCh a ∧ x < nCw a ∧ q = cQ a y0 x0 y x) → w2.1 15 0 q = nF a P s bk q) hj hk' hl' (nPg_lt hj hs hb (by omega)) hy0 (by omega) (fun y x hy hx => cell_val hj hs hb hb0 hy0 (by omega) hy hx) hD (fun w2 h1 h2 => ⟨rfl, h1, h2⟩)) (fun w2 r h => ?_)
    obtain ⟨rfl, f2, v2⟩ := h
    refine z_C.go 2 rfl ?_
    have k9 := ih (x0 + 1) w2 (by omega) (hf.tr f2) (fun q hq => v2 q (by
      rcases hq with hq | ⟨x', h1, h2⟩
      · exact Or.inl (Or.inl hq)
      · by_cases e : x' = x0
        · subst e
          exact Or.inr h2
        · exact Or.inl (Or.inr ⟨x', by omega, h2⟩)))
    rw [← iN_add x0 1] at k9
    exact k9
theorem face_turn {q : Nat} (hj : aJob a nx) (ht : bk = 1 ∧ a 6 = 2 ∧ a 7 = 0) (hq : q < nW a * nH a) : nF a P s bk (nW a * nH a - 1 - q) = nFace a P s bk q := by
  unfold nFace nFv nF
  rw [if_pos ht]
  rcases nWH hj with ⟨c7, -, cW, cH⟩ | ⟨-, -, cW, cH⟩ | ⟨-, -, cW, cH⟩ | ⟨-, -, cW, cH⟩
  · omega
  all_goals
    rw [cW, cH] at hq ⊢
    congr 1 <;> omega
theorem face_same {q : Nat} (ht : ¬ (bk = 1 ∧ a 6 = 2 ∧ a 7 = 0)) : nF a P s bk q = nFace a P s bk q := by
  unfold nFace nFv nF
  rw [if_neg ht]
theorem e_f8 {W0 : z_W} (hj : aJob a nx) (hk : cK j a P W0) (hl : cL a W0) (hs : s < nC a) (hb : bk ≤ 1) (hb0 : a 6 = 0 → a 7 = 0 → bk = 0)
    (K : ∀ w, fr15 W0 w → (∀ q, q < nW a * nH a → w.1 15 0 q = nFace a P s bk q) → Q w none) :
    ∀ (d y0 : Nat) (w : z_W) (z : Option z_V), y0 + d = nRows a → fr15 W0 w → (∀ q, (∃ y', y' < y0 ∧ ∃ x0, x0 < nCols a ∧ inC a y' x0 q) → w.1 15 0 q = nF a P s bk q) →
    cRun kT_fillSide (8, [some (zR 14 0), some (zR 9 j), some (zI (iN bk)), some (zI (iN s)), some (zI (iN y0)), z], [], w) Q := by
  have hcr : nCols a ≤ 2 ∧ nRows a ≤ 2 := by rcases nLay hj with h | h | h | h <;> omega
  have h6b := hj.2.2.2.2.2.1
  have h7b := hj.2.2.2.2.2.2.1
  intro d
  induction d with
  | zero =>
    intro y0 w z hy hf hD
    have hl' := hl.f15 hf
    have hk' := hk.f15 hf
    have all : ∀ q, q < nW a * nH a → w.1 15 0 q = nF a P s bk q := fun q hq => by
      obtain ⟨y1, x1, y, x, g1, g2, g3, g4, g5⟩ := cQ_sur hj hq
      exact hD q ⟨y1, by omega, x1, g2, y, x, g3, g4, g5⟩
    refine z_C.go 2 rfl ?_
    refine z_C.ld rfl rfl hl'.2.2.1 ?_
    refine z_C.go 1 rfl ?_
    refine z_C.if (fun _ => ?_) (fun h => absurd ((iN_le (by omega) (by omega)).mpr (by omega)) h)
    refine z_C.go 3 rfl ?_
    refine z_C.if (fun h => ?_) (fun h => ?_)
    · have b1 : bk = 1 := (iN_inj (b := 1) (by omega) (by decide)).mp h
      refine z_C.go 1 rfl ?_
      refine z_C.ld rfl rfl (hk'.1 7 (by decide) (by decide)) ?_
      refine z_C.go 1 rfl ?_
      refine z_C.if (fun h => ?_) (fun h => ?_)
      · have b7 : a 7 = 0 := (iN_inj (b := 0) (by omega) (by decide)).mp h
        refine z_C.go 1 rfl ?_
        refine z_C.ld rfl rfl (hk'.1 6 (by decide) (by decide)) ?_
        refine z_C.go 2 rfl ?_
        refine z_C.if (fun h => ?_) (fun h => ?_)
        · have b6 : a 6 = 2 := (iN_inj (b := 2) (by omega) (by decide)).mp h
          refine z_C.go 1 rfl ?_
          have hWH : nW a * nH a = 12 ∨ nW a * nH a = 24 ∨ nW a * nH a = 48 := by rcases nWH hj with ⟨-, -, cW, cH⟩ | ⟨-, -, cW, cH⟩ | ⟨-, -, cW, cH⟩ | ⟨-, -, cW, cH⟩ <;> rw [cW, cH] <;> decide
          refine z_C.call rfl rfl (e_turn (W := nW a) (H := nH a) (Q := fun w2 r => r = none ∧ fr15 w w2 ∧ ∀ q, q < nW a * nH a → w2.1 15 0 q = w.1 15 0 (nW a * nH a - 1 - q)) hl'.2.2.2.1 hl'.2.2.2.2 hWH (fun w2 h1 h2 => ⟨rfl, h1, h2⟩)) (fun w2 r h => ?_)
          obtain ⟨rfl, f2, v2⟩ := h
          exact z_C.ret rfl rfl (K w2 (hf.tr f2) (fun q hq => by rw [v2 q hq, all _ (by omega), face_turn hj ⟨b1, b6, b7⟩ hq]))
        · have b6 : ¬ a 6 = 2 := fun h9 => h (by rw [h9]; rfl)
          exact z_C.ret rfl rfl (K w hf (fun q hq => by rw [all q hq, face_same (fun h9 => b6 h9.2.1)]))
      · have b7 : ¬ a 7 = 0 := fun h9 => h (by rw [h9]; rfl)
        exact z_C.ret rfl rfl (K w hf (fun q hq => by rw [all q hq, face_same (fun h9 => b7 h9.2.2)]))
    · have b1 : ¬ bk = 1 := fun h9 => h (by rw [h9]; rfl)
      exact z_C.ret rfl rfl (K w hf (fun q hq => by rw [all q hq, face_same (fun h9 => b1 h9.1)]))
  | succ d ih =>
    intro y0 w z hy hf hD
    have hl' := hl.f15 hf
    refine z_C.go 2 rfl ?_
    refine z_C.ld rfl rfl hl'.2.2.1 ?_
    refine z_C.go 1 rfl ?_
    refine z_C.if (fun h => absurd ((iN_le (by omega) (by omega)).mp h) (by omega)) (fun _ => ?_)
    refine z_C.go 2 rfl ?_
    refine e_f20 (W0 := W0) (D := fun q => ∃ y', y' < y0 ∧ ∃ x0, x0 < nCols a ∧ inC a y' x0 q) hj hk hl hs hb hb0 (by omega) (fun w2 f2 v2 z2 => ih (y0 + 1) w2 z2 (by omega) f2 (fun q hq => v2 q ?_)) (nCols a) 0 w (by omega) hf (fun q hq => hD q ?_)
    · obtain ⟨y', h1, h2⟩ := hq
      by_cases e : y' = y0
      · subst e
        exact Or.inr h2
      · exact Or.inl ⟨y', by omega, h2⟩
    · rcases hq with hq | ⟨x', h1, -⟩
      · exact hq
      · omega
theorem e_fillSide {t : Nat} {w : z_W} (hj : aJob a nx) (hk : cK j a P w) (hl : cL a w) (ht : w.1 9 j 9 = iN t) (ht18 : t ≤ 18) (hb : bk ≤ 1) (hb0 : a 6 = 0 → a 7 = 0 → bk = 0)
    (K : ∀ w', fr15 w w' → (∀ q, q < nW a * nH a → w'.1 15 0 q = nFace a P (t % nC a) bk q) → Q w' none) : cRun kT_fillSide (0, [some (zR 14 0), some (zR 9 j), some (zI (iN bk)), none, none, none], [], w) Q := by
  have hN1 : 1 ≤ nC a := hj.copy.2.2.1
  refine z_C.go 1 rfl ?_
  refine z_C.call rfl rfl (zC_up (C' := zC) (k_next (t := t) (Q := fun w' r => w' = w ∧ r = some (zI (iN (t % nC a)))) hj hk ht ht18 ⟨rfl, rfl⟩)) (fun w' r h => ?_)
  obtain ⟨rfl, rfl⟩ := h
  refine z_C.go 3 rfl ?_
  exact e_f8 (W0 := w') hj hk hl (Nat.mod_lt _ (by omega)) hb hb0 K (nRows a) 0 w' none (by omega) (fr15.rf _) (fun q hq => by obtain ⟨y', h1, -⟩ := hq; omega)
/-- a side is filled and written -/
theorem e_face {t L : Nat} {w : z_W} {z : Int32} (hj : aJob a nx) (hk : cK j a P w) (hl : cL a w) (ht : w.1 9 j 9 = iN t) (ht18 : t ≤ 18) (hb : bk ≤ 1) (hb0 : a 6 = 0 → a 7 = 0 → bk = 0) (hn : bk < nSd a) (hL : w.1 1 2 1 = iN L) (hc : L + 102 ≤ 256)
    (K : ∀ w2, fr15 w w2 → cRun kT_send (56, [some (zR 14 0), some (zR 9 j), some (zI (iN (bk + 1)))], [], bApp 2 (faceE a P (t % nC a) bk) w2) Q) : cRun kT_send (56, [some (zR 14 0), some (zR 9 j), some (zI (iN bk))], [], w) Q := by
  have hWH : nW a ≤ 8 ∧ nH a ≤ 6 ∧ nH a * (2 * nW a + 1) ≤ 102 := by
    rcases nWH hj with ⟨-, -, h1, h2⟩ | ⟨-, -, h1, h2⟩ | ⟨-, -, h1, h2⟩ | ⟨-, -, h1, h2⟩ <;> rw [h1, h2] <;> decide
  have hsd := nSd_b a
  refine z_C.go 2 rfl ?_
  refine z_C.call rfl rfl (zC_up (C' := zC) (k_sds (Q := fun w' r => w' = w ∧ r = some (zI (iN (nSd a)))) hj hk ⟨rfl, rfl⟩)) (fun w' r h => ?_)
  obtain ⟨rfl, rfl⟩ := h
  refine z_C.go 1 rfl ?_
  refine z_C.if (fun h => absurd ((iN_le (by omega) (by omega)).mp h) (by omega)) (fun _ => ?_)
  refine z_C.go 3 rfl ?_
  refine z_C.call rfl rfl (e_fillSide (t := t) (bk := bk) (Q := fun w2 r => r = none ∧ fr15 w' w2 ∧ ∀ q, q < nW a * nH a → w2.1 15 0 q = nFace a P (t % nC a) bk q) hj hk hl ht ht18 hb hb0 (fun w2 h1 h2 => ⟨rfl, h1, h2⟩)) (fun w2 r h => ?_)
  obtain ⟨rfl, f2, v2⟩ := h
  have hl2 := hl.f15 f2
  refine z_C.go 1 rfl ?_
  refine z_C.call rfl rfl (e_side (W := nW a) (H := nH a) (L := L) (f := w2.1 15 0) (Q := fun w3 r => r = none ∧ w3 = bApp 2 (faceE a P (t % nC a) bk) w2) ⟨⟨hl2.2.2.2.1, hl2.2.2.2.2⟩, ⟨hWH.1, hWH.2.1⟩, fun q _ => rfl⟩ ((f2.2 1 2 1 (by decide)).trans hL) (by omega) ⟨rfl, by rw [faceE_of v2]⟩) (fun w3 r h => ?_)
  obtain ⟨rfl, rfl⟩ := h
  refine z_C.go 2 rfl ?_
  have k9 := K w2 f2
  rw [← iN_add bk 1] at k9
  exact k9
def cFin (j : Nat) (w : z_W) : z_W := z_si (z_si w 9 j 9 (w.1 9 j 9 + 1)) 14 0 2 (w.1 14 0 2 + 1)
theorem e_sendEnd {w : z_W} {i : Nat} (hj : aJob a nx) (hk : cK j a P w) (hn : nSd a ≤ i) (hi : i ≤ 2) (K : Q (cFin j w) none) : cRun kT_send (56, [some (zR 14 0), some (zR 9 j), some (zI (iN i))], [], w) Q := by
  refine z_C.go 2 rfl ?_
  refine z_C.call rfl rfl (zC_up (C' := zC) (k_sds (Q := fun w' r => w' = w ∧ r = some (zI (iN (nSd a)))) hj hk ⟨rfl, rfl⟩)) (fun w' r h => ?_)
  obtain ⟨rfl, rfl⟩ := h
  refine z_C.go 1 rfl ?_
  refine z_C.if (fun _ => ?_) (fun h => absurd ((iN_le (by omega) (by omega)).mpr hn) h)
  refine z_C.go 12 rfl ?_
  exact z_C.ret rfl rfl K
theorem cK.app {l : List Int32} {w : z_W} (hk : cK j a P w) : cK j a P (bApp 2 l w) := hk.fr (fun g i k hg => (bApp_fr l w).2 g i k (fun h => by omega))
theorem cL.app {l : List Int32} {w : z_W} (hl : cL a w) : cL a (bApp 2 l w) := hl.fr (fun i k => (bApp_fr l w).2 14 i k (fun h => by omega))
theorem cK.add {x : Int32} {w : z_W} (hk : cK j a P w) : cK j a P (bAdd 2 x w) := hk.fr (fun g i k hg => bAdd_fr.2 g i k (fun h => by omega))
theorem cL.add {x : Int32} {w : z_W} (hl : cL a w) : cL a (bAdd 2 x w) := hl.fr (fun i k => bAdd_fr.2 14 i k (fun h => by omega))
theorem sc_hdr {L : Nat} {w : z_W} {x : Int32} {st : List z_V} {pc : Nat} {LL : z_L} {I : z_I} {rest : List z_V} (h0 : w.1 1 2 1 = iN L) (hL : L < 256) (hC : zC kT_send pc = some I) (hs : z_step sC zM I pc LL st w = some (.inr (.inr (kB_add, [zR 1 2, zI x], rest))))
    (K : cRun kT_send (pc + 3, LL, rest, bAdd 2 x w) Q) : cRun kT_send (pc, LL, st, w) Q := by
  refine z_C.call hC hs (e_add2 (L := L) (Q := fun w' r' => w' = bAdd 2 x w ∧ r' = none) h0 hL ⟨rfl, rfl⟩) (fun w' r' h => ?_)
  obtain ⟨rfl, rfl⟩ := h
  exact K
theorem sc_sds {w : z_W} {st : List z_V} {pc : Nat} {LL : z_L} {I : z_I} {rest : List z_V} (hj : aJob a nx) (hk : cK j a P w) (hC : zC kT_send pc = some I) (hs : z_step sC zM I pc LL st w = some (.inr (.inr (kJ_sidesOfSheet, [zR 9 j], rest))))
    (K : cRun kT_send (pc + 3, LL, zI (iN (nSd a)) :: rest, w) Q) : cRun kT_send (pc, LL, st, w) Q := by
  refine z_C.call hC hs (zC_up (C' := zC) (k_sds (Q := fun w' r' => w' = w ∧ r' = some (zI (iN (nSd a)))) hj hk ⟨rfl, rfl⟩)) (fun w' r' h => ?_)
  obtain ⟨rfl, rfl⟩ := h
  exact K
theorem e_send {t : Nat} {w : z_W} (hj : aJob a nx) (hk : cK j a P w) (ht : w.1 9 j 9 = iN t) (ht18 : t ≤ 18)
    (K1 : nSd a = 1 → ∀ w1 w2, frL w w1 → fr15 (bApp 2 (hdrL a 1) (bClr 2 w1)) w2 → Q (cFin j (bApp 2 (faceE a P (t % nC a) 0) w2)) none)
    (K2 : nSd a = 2 → ∀ w1 w2 w3, frL w w1 → fr15 (bApp 2 (hdrL a 2) (bClr 2 w1)) w2 → fr15 (bApp 2 (faceE a P (t % nC a) 0) w2) w3 → Q (cFin j (bApp 2 (faceE a P (t % nC a) 1) w3)) none) :
    cRun kT_send (0, [some (zR 14 0), some (zR 9 j), none], [], w) Q := by
  refine z_C.go 2 rfl ?_
  refine z_C.call rfl rfl (e_layOut (Q := fun w1 r => r = none ∧ frL w w1 ∧ cL a w1) hj hk (fun w1 h1 h2 => ⟨rfl, h1, h2⟩)) (fun w1 r h => ?_)
  obtain ⟨rfl, f1, hl1⟩ := h
  have hk1 : cK j a P w1 := hk.fr (fun g i k hg => f1.2 g i k (by omega))
  refine z_C.go 2 rfl ?_
  refine z_C.call rfl rfl (e_clear (b := 2) (Q := fun w' r => w' = bClr 2 w1 ∧ r = none) ⟨rfl, rfl⟩) (fun w' r h => ?_)
  obtain ⟨rfl, rfl⟩ := h
  have hk2 : cK j a P (bClr 2 w1) := hk1.fr (fun g i k hg => (if_neg (fun h => by omega)).trans (if_neg (fun h => by omega)))
  have hl2 : cL a (bClr 2 w1) := hl1.fr (fun i k => rfl)
  have l0 : (bClr 2 w1).1 1 2 1 = iN 0 := rfl
  have l1 := bAdd_lenI (b := 2) (x := 83) l0 (show 0 < 256 by decide)
  have l2 := bAdd_lenI (b := 2) (x := iN (nW a)) l1 (show 1 < 256 by decide)
  have l3 := bAdd_lenI (b := 2) (x := iN (nH a)) l2 (show 2 < 256 by decide)
  have l4 : (bApp 2 (hdrL a (nSd a)) (bClr 2 w1)).1 1 2 1 = iN 4 := bApp_len (b := 2) (hdrL a (nSd a)) 0 (bClr 2 w1) l0 (show 0 + 4 ≤ 256 by decide)
  refine z_C.go 3 rfl ?_
  refine sc_hdr l0 (by decide) rfl rfl ?_
  have hla : cL a (bAdd 2 83 (bClr 2 w1)) := hl2.add
  refine z_C.go 3 rfl ?_
  refine z_C.ld rfl rfl hla.2.2.2.1 ?_
  refine sc_hdr l1 (by decide) rfl rfl ?_
  have hlb : cL a (bAdd 2 (iN (nW a)) (bAdd 2 83 (bClr 2 w1))) := hla.add
  refine z_C.go 3 rfl ?_
  refine z_C.ld rfl rfl hlb.2.2.2.2 ?_
  refine sc_hdr l2 (by decide) rfl rfl ?_
  have hkc : cK j a P (bAdd 2 (iN (nH a)) (bAdd 2 (iN (nW a)) (bAdd 2 83 (bClr 2 w1)))) := hk2.add.add.add
  refine z_C.go 3 rfl ?_
  refine sc_sds hj hkc rfl rfl ?_
  refine sc_hdr l3 (by decide) rfl rfl ?_
  refine z_C.go 2 rfl ?_
  have hk3 : cK j a P (bApp 2 (hdrL a (nSd a)) (bClr 2 w1)) := hk2.app
  have hl3 : cL a (bApp 2 (hdrL a (nSd a)) (bClr 2 w1)) := hl2.app
  have t3 : (bApp 2 (hdrL a (nSd a)) (bClr 2 w1)).1 9 j 9 = iN t := by
    rw [(bApp_fr (hdrL a (nSd a)) (bClr 2 w1)).2 9 j 9 (fun h => by omega)]
    exact (f1.2 9 j 9 (by decide)).trans ht
  show cRun kT_send (56, [some (zR 14 0), some (zR 9 j), some (zI (iN 0))], [], bApp 2 (hdrL a (nSd a)) (bClr 2 w1)) Q
  have hl0 := faceE_len (P := P) (s := t % nC a) (bk := 0) hj
  rcases nSd_b a with h1 | h2
  · rw [h1] at hk3 hl3 t3 l4 ⊢
    refine e_face (t := t) (L := 4) (bk := 0) (z := 0) hj hk3 hl3 t3 ht18 (by decide) (fun _ _ => rfl) (by omega) l4 (by decide) (fun w2 f2 => ?_)
    exact e_sendEnd hj (hk3.f15 f2).app (by omega) (by decide) (K1 h1 w1 w2 f1 f2)
  · rw [h2] at hk3 hl3 t3 l4 ⊢
    refine e_face (t := t) (L := 4) (bk := 0) (z := 0) hj hk3 hl3 t3 ht18 (by decide) (fun _ _ => rfl) (by omega) l4 (by decide) (fun w2 f2 => ?_)
    have l5 : (bApp 2 (faceE a P (t % nC a) 0) w2).1 1 2 1 = iN (4 + (faceE a P (t % nC a) 0).length) := bApp_len _ 4 w2 ((f2.2 1 2 1 (by decide)).trans l4) (show _ ≤ 256 by omega)
    have t5 : (bApp 2 (faceE a P (t % nC a) 0) w2).1 9 j 9 = iN t := by
      rw [(bApp_fr (faceE a P (t % nC a) 0) w2).2 9 j 9 (fun h => by omega)]
      exact (f2.2 9 j 9 (by decide)).trans t3
    refine e_face (t := t) (L := 4 + (faceE a P (t % nC a) 0).length) (bk := 1) (z := 0) hj (hk3.f15 f2).app (hl3.f15 f2).app t5 ht18 (by decide) (fun h6 h7 => by
      unfold nSd at h2
      rw [if_neg (by omega), if_pos h6] at h2
      omega) (by omega) l5 (by omega) (fun w3 f3 => ?_)
    exact e_sendEnd hj ((hk3.f15 f2).app.f15 f3).app (by omega) (by decide) (K2 h2 w1 w2 w3 f1 f2 f3)
end FS
