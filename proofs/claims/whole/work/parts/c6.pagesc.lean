/-! pages: the class, whole -/
def pxI (n : Nat) (Y X : Nat → Nat) (t : Nat) (w : z_W) : Prop := (∀ q, q < 12 * n → w.1 10 20 q = iN (Y q)) ∧ ∀ q, q < 4 * t → w.1 10 20 (12 * n + q) = iN (X q)
def kF (w w' : z_W) : Prop := w'.2 = w.2 ∧ ∀ g i k, ¬ (g = 10 ∧ i = 20) → w'.1 g i k = w.1 g i k
section PC2
variable {len : Nat} {D : Nat → Nat} {Q : z_W → Option z_V → Prop}
theorem e_keepRow {n t b : Nat} {Y X R : Nat → Nat} {w : z_W} (hn : w.1 9 20 8 = iN n) (hn2 : n ≤ 300) (htb : t ≤ b) (hb : b ≤ 3) (hR : ∀ x, x < 4 → w.1 8 0 x = iN (R x)) (h6 : 6 ≤ n → Q w none) (hlt : n < 6 → pxI n Y X t w) (K : n < 6 → ∀ w', kF w w' → pxI n Y (putR X t b R) b w' → Q w' none) :
    cRun kR_keepRow (0, [some (zR 7 0), some (zR 9 20), some (zI (iN t)), some (zI (iN b)), none], [], w) Q := by
  refine z_C.go 1 rfl ?_
  refine z_C.ld rfl rfl hn ?_
  refine z_C.go 2 rfl ?_
  refine z_C.if (fun h => ?_) (fun h => ?_)
  · have h := (iN_lt (b := 6) (by omega) (by decide)).mp h
    refine z_C.go 2 rfl ?_
    have loop : ∀ (d y : Nat) (v : z_W), y + d = b → t ≤ y → kF w v → pxI n Y (putR X t y R) y v → cRun kR_keepRow (13, [some (zR 7 0), some (zR 9 20), some (zI (iN t)), some (zI (iN b)), some (zI (iN y))], [], v) Q := by
      intro d
      induction d with
      | zero =>
        intro y v hy hty hF hp
        have e : y = b := by omega
        subst e
        refine z_C.go 3 rfl ?_
        refine z_C.if (fun _ => ?_) (fun h9 => absurd ((iN_le (by omega) (by omega)).mpr (by omega)) h9)
        exact z_C.ret rfl rfl (K h v hF hp)
      | succ d ih =>
        intro y v hy hty hF hp
        have hn' : v.1 9 20 8 = iN n := (hF.2 9 20 8 (by omega)).trans hn
        have edp : iN n * 12 + iN y * 4 = iN (12 * n + 4 * y) := by
          rw [show iN n * 12 = iN (12 * n) by rw [Nat.mul_comm]; exact iN_mul n 12, show iN y * 4 = iN (4 * y) by rw [Nat.mul_comm]; exact iN_mul y 4, iN_add]
        refine z_C.go 3 rfl ?_
        refine z_C.if (fun h9 => absurd ((iN_le (by omega) (by omega)).mp h9) (by omega)) (fun _ => ?_)
        refine z_C.go 6 rfl ?_
        refine z_C.ld rfl rfl hn' ?_
        refine z_C.go 7 rfl ?_
        rw [edp]
        have ti : (iN (12 * n + 4 * y)).toInt = ((12 * n + 4 * y : Nat) : Int) := iN_toInt (by omega)
        have t0 : (0 : Int32).toInt = 0 := by decide
        have t4 : (4 : Int32).toInt = 4 := by decide
        refine z_C.go1 rfl (if_pos ⟨rfl, rfl, by rw [t0]; decide, by rw [ti]; omega, by rw [t4]; decide, by rw [t0, t4]; decide, by rw [ti, t4]; show _ ≤ ((72 : Nat) : Int); omega, by decide⟩) ?_
        refine z_C.go 2 rfl ?_
        have k9 := ih (y + 1) (z_cp v 8 0 (0 : Int32).toNatClampNeg 10 20 (iN (12 * n + 4 * y)).toNatClampNeg (4 : Int32).toNatClampNeg) (by omega) (by omega) ⟨hF.1, fun g i k hg => (if_neg hg).trans (hF.2 g i k hg)⟩ (by
          rw [iN_nat (by omega)]
          have e1 : ∀ q, (z_cp v 8 0 (0 : Int32).toNatClampNeg 10 20 (12 * n + 4 * y) (4 : Int32).toNatClampNeg).1 10 20 q = if 12 * n + 4 * y ≤ q ∧ q < 12 * n + 4 * y + 4 then v.1 8 0 (0 + (q - (12 * n + 4 * y))) else v.1 10 20 q := fun q => rfl
          refine ⟨fun q hq => ?_, fun q hq => ?_⟩
          · rw [e1, if_neg (by omega)]
            exact hp.1 q hq
          · rw [e1]
            by_cases hq2 : 4 * y ≤ q
            · rw [if_pos (by omega), Nat.zero_add, show 12 * n + q - (12 * n + 4 * y) = q - 4 * y by omega, hF.2 8 0 _ (by omega), hR _ (by omega)]
              unfold putR
              rw [if_pos (by omega), show q % 4 = q - 4 * y by omega]
            · rw [if_neg (by omega), hp.2 q (by omega)]
              unfold putR
              by_cases hq3 : 4 * t ≤ q
              · rw [if_pos (by omega), if_pos (by omega)]
              · rw [if_neg (by omega), if_neg (by omega)])
        rw [← iN_add y 1] at k9
        exact k9
    exact loop (b - t) t w (by omega) (Nat.le_refl _) ⟨rfl, fun _ _ _ _ => rfl⟩ ⟨(hlt h).1, fun q hq => by
      rw [(hlt h).2 q hq]
      unfold putR
      rw [if_neg (by omega)]⟩
  · have h : ¬ n < 6 := fun h9 => h ((iN_lt (b := 6) (by omega) (by decide)).mpr h9)
    exact z_C.ret rfl rfl (h6 (by omega))
theorem kF.p {w w' : z_W} (h : kF w w') : pF w w' := ⟨h.1, fun g i k _ _ c _ => h.2 g i k c⟩
/-- what a page leaves alone -/
def gF (w w' : z_W) : Prop := w'.2 = w.2 ∧ ∀ g i k, ¬ (g = 1 ∧ i = 0 ∧ k = 2) → ¬ g = 8 → ¬ (g = 10 ∧ i = 20) → w'.1 g i k = w.1 g i k
theorem gF.rf (w : z_W) : gF w w := ⟨rfl, fun _ _ _ _ _ _ => rfl⟩
theorem gF.tr {w w' w'' : z_W} (h1 : gF w w') (h2 : gF w' w'') : gF w w'' := ⟨h2.1.trans h1.1, fun g i k a b c => (h2.2 g i k a b c).trans (h1.2 g i k a b c)⟩
theorem gF.r {w w' : z_W} (h : rF w w') : gF w w' := ⟨h.1, fun g i k a b _ => h.2 g i k a b⟩
theorem gF.k {w w' : z_W} (h : kF w w') : gF w w' := ⟨h.1, fun g i k _ _ c => h.2 g i k c⟩
theorem gF.p {w w' : z_W} (h : gF w w') : pF w w' := ⟨h.1, fun g i k a b c _ => h.2 g i k a b c⟩
theorem e_ras_lp {n : Nat} {Y : Nat → Nat} {o : Option ((Nat → Nat) × Nat)} {W0 : z_W} (hn2 : n ≤ 300) (h1 : ∀ X p, o = some (X, p) → ∀ w', gF W0 w' → w'.1 1 0 2 = iN p → (n < 6 → pxI n Y X 3 w') → (6 ≤ n → ∀ q, w'.1 10 20 q = W0.1 10 20 q) → Q w' (some (zI 1))) (h0 : o = none → ∀ w', gF W0 w' → Q w' (some (zI 0))) :
    ∀ (f p t : Nat) (X : Nat → Nat) (w : z_W) (x4 : Option z_V), f ≤ 3 → t ≤ 3 → rasR D len f p t X o → cD len D w → gF W0 w → w.1 9 20 8 = iN n → w.1 1 0 2 = iN p → p ≤ len → (n < 6 → pxI n Y X t w) → (6 ≤ n → ∀ q, w.1 10 20 q = W0.1 10 20 q) →
    cRun kR_readRaster (4, [some (zR 7 0), some (zR 9 20), some (zI (iN t)), some (zI (iN (3 - f))), x4], [], w) Q := by
  have fin : ∀ (p : Nat) (X : Nat → Nat) (w : z_W) (i : Int32) (x4 : Option z_V), o = some (X, p) → gF W0 w → w.1 1 0 2 = iN p → (n < 6 → pxI n Y X 3 w) → (6 ≤ n → ∀ q, w.1 10 20 q = W0.1 10 20 q) → cRun kR_readRaster (65, [some (zR 7 0), some (zR 9 20), some (zI (iN 3)), some (zI i), x4], [], w) Q := fun p X w i x4 ho hF hp a b => by
    refine z_C.go 3 rfl ?_
    refine z_C.if (fun _ => ?_) (fun h => absurd (by decide) h)
    refine z_C.go 2 rfl ?_
    exact z_C.ret rfl rfl (h1 X p ho w hF hp a b)
  intro f
  induction f with
  | zero =>
    intro p t X w x4 hf ht hr hd hF hn hp hpl ha hb
    obtain ⟨rfl, ho⟩ := hr
    refine z_C.go 3 rfl ?_
    refine z_C.if (fun _ => ?_) (fun h => absurd (by decide) h)
    exact fin p X w _ _ ho hF hp ha hb
  | succ f ih =>
    intro p t X w x4 hf ht hr hd hF hn hp hpl ha hb
    have hlen := hd.1
    refine z_C.go 3 rfl ?_
    refine z_C.if (fun h => absurd ((iN_le (a := 3) (by decide) (by omega)).mp h) (by omega)) (fun _ => ?_)
    refine z_C.go 3 rfl ?_
    by_cases h3 : t = 3
    · subst h3
      refine z_C.if (fun _ => ?_) (fun h => absurd (by decide) h)
      have ho : o = some (X, p) := by
        rcases hr with ⟨-, h⟩ | ⟨h, -⟩ | ⟨h, -⟩
        · exact h
        · omega
        · omega
      exact fin p X w _ _ ho hF hp ha hb
    · refine z_C.if (fun h => absurd ((iN_le (a := 3) (by decide) (by omega)).mp h) (by omega)) (fun _ => ?_)
      refine z_C.go 3 rfl ?_
      have hbad : ¬ (p < len ∧ t + D p + 1 ≤ 3) → o = none := fun hn9 => by
        rcases hr with ⟨h, -⟩ | ⟨-, -, h⟩ | ⟨-, h, -⟩
        · omega
        · exact h
        · exact absurd h hn9
      by_cases hpl2 : p < len
      · have hD := (hd.2.2 p hpl2).2
        refine z_C.call rfl rfl (e_next (p := p) (Q := fun w' r => cuF w w' ∧ w'.1 1 0 2 = iN (p + 1) ∧ r = some (zI (iN (D p)))) hd hp (by omega) (fun _ w' a b => ⟨a, b, rfl⟩) (fun h => absurd hpl2 h)) (fun w1 r h => ?_)
        obtain ⟨f1, p1, rfl⟩ := h
        have eb : iN t + iN (D p) + 1 = iN (t + D p + 1) := by rw [iN_add]; exact iN_add _ 1
        refine z_C.go 7 rfl ?_
        rw [eb]
        refine z_C.if (fun h => absurd ((iN_le (by omega) (by omega)).mp h) (by omega)) (fun _ => ?_)
        refine z_C.go 3 rfl ?_
        refine z_C.if (fun h => ?_) (fun h => ?_)
        · have h := (iN_lt (a := 3) (by decide) (by omega)).mp h
          refine z_C.go 1 rfl ?_
          exact z_C.ret rfl rfl (h0 (hbad (fun h9 => by omega)) w1 (hF.tr (gF.r (rF.cu f1))))
        · have hb3 : t + D p + 1 ≤ 3 := Nat.le_of_not_lt (fun h9 => h ((iN_lt (a := 3) (by decide) (by omega)).mpr h9))
          obtain ⟨o1, hr1, hr2⟩ : ∃ o1, rowR D len 4 (p + 1) 0 (fun _ => 0) o1 ∧ ((o1 = none ∧ o = none) ∨ ∃ R p1, o1 = some (R, p1) ∧ rasR D len f p1 (t + D p + 1) (putR X t (t + D p + 1) R) o) := by
            rcases hr with ⟨h, -⟩ | ⟨-, h, -⟩ | ⟨-, -, h⟩
            · omega
            · exact absurd ⟨hpl2, hb3⟩ h
            · exact h
          refine z_C.go 1 rfl ?_
          cases o1 with
          | none =>
            have ho : o = none := by
              rcases hr2 with ⟨-, h⟩ | ⟨R, p9, h, -⟩
              · exact h
              · cases h
            refine z_C.call rfl rfl (e_row4 (p := p + 1) (Q := fun w' r => rF w1 w' ∧ r = some (zI 0)) hr1 (hd.cu f1) p1 (by omega) (fun R p9 h => by cases h) (fun _ w' a => ⟨a, rfl⟩)) (fun w2 r h => ?_)
            obtain ⟨f2, rfl⟩ := h
            refine z_C.go 1 rfl ?_
            refine z_C.if (fun _ => ?_) (fun h => absurd (by decide) h)
            refine z_C.go 1 rfl ?_
            exact z_C.ret rfl rfl (h0 ho w2 ((hF.tr (gF.r (rF.cu f1))).tr (gF.r f2)))
          | some x =>
            obtain ⟨R, p9⟩ := x
            have hr3 : rasR D len f p9 (t + D p + 1) (putR X t (t + D p + 1) R) o := by
              rcases hr2 with ⟨h, -⟩ | ⟨R', p', h, h9⟩
              · cases h
              · cases h
                exact h9
            have hp9 := (rowR_ge _ _ _ _ _ _ hr1).2 (by decide) (by omega)
            refine z_C.call rfl rfl (e_row4 (p := p + 1) (Q := fun w' r => (rF w1 w' ∧ w'.1 1 0 2 = iN p9 ∧ ∀ x, x < 4 → w'.1 8 0 x = iN (R x)) ∧ r = some (zI 1)) hr1 (hd.cu f1) p1 (by omega) (fun R' p' h w' a b c => by
              cases h
              exact ⟨⟨a, b, c⟩, rfl⟩) (fun h => by cases h)) (fun w2 r h => ?_)
            obtain ⟨⟨f2, p2, hR⟩, rfl⟩ := h
            have f12 : rF w w2 := (rF.cu f1).tr f2
            have hn2' : w2.1 9 20 8 = iN n := (f12.2 9 20 8 (by omega) (by omega)).trans hn
            have hpx2 : n < 6 → pxI n Y X t w2 := fun h6 => ⟨fun q hq => (f12.2 10 20 q (by omega) (by omega)).trans ((ha h6).1 q hq), fun q hq => (f12.2 10 20 _ (by omega) (by omega)).trans ((ha h6).2 q hq)⟩
            refine z_C.go 1 rfl ?_
            refine z_C.if (fun h => absurd h (by decide)) (fun _ => ?_)
            refine z_C.go 4 rfl ?_
            refine z_C.call rfl rfl (e_keepRow (n := n) (t := t) (b := t + D p + 1) (Y := Y) (X := X) (R := R) (Q := fun w3 r => r = none ∧ kF w2 w3 ∧ (n < 6 → pxI n Y (putR X t (t + D p + 1) R) (t + D p + 1) w3) ∧ (6 ≤ n → w3 = w2)) hn2' hn2 (by omega) hb3 hR (fun h6 => ⟨rfl, ⟨rfl, fun _ _ _ _ => rfl⟩, fun h => by omega, fun _ => rfl⟩) hpx2 (fun h6 w3 a b => ⟨rfl, a, fun _ => b, fun h => by omega⟩)) (fun w3 r h => ?_)
            obtain ⟨rfl, f3, hpx3, heq⟩ := h
            refine z_C.go 4 rfl ?_
            have hd3 : cD len D w3 := (hd.pF f12.p).pF f3.p
            have k9 := ih p9 (t + D p + 1) (putR X t (t + D p + 1) R) w3 (some (zI (iN (t + D p + 1)))) (by omega) hb3 hr3 hd3 ((hF.tr (gF.r f12)).tr (gF.k f3)) ((f3.2 9 20 8 (by omega)).trans hn2') ((f3.2 1 0 2 (by omega)).trans p2) hp9 hpx3 (fun h6 q => by rw [heq h6, f12.2 10 20 q (by omega) (by omega)]; exact hb h6 q)
            rw [show 3 - f = 3 - (f + 1) + 1 by omega, ← iN_add (3 - (f + 1)) 1] at k9
            exact k9
      · refine z_C.call rfl rfl (e_next (p := p) (Q := fun w' r => w' = w ∧ r = some (zI (-1))) hd hp (by omega) (fun h => absurd h hpl2) (fun _ => ⟨rfl, rfl⟩)) (fun w1 r h => ?_)
        obtain ⟨rfl, rfl⟩ := h
        refine z_C.go 7 rfl ?_
        have e0 : iN t + -1 + 1 = iN t := by rw [Int32.add_assoc]; exact Int32.add_zero _
        rw [e0]
        refine z_C.if (fun _ => ?_) (fun h => absurd (Int32.le_refl _) h)
        refine z_C.go 1 rfl ?_
        exact z_C.ret rfl rfl (h0 (hbad (fun h => hpl2 h.1)) w1 hF)
theorem e_ras {n p : Nat} {Y : Nat → Nat} {o : Option ((Nat → Nat) × Nat)} {w : z_W} (hn2 : n ≤ 300) (hr : rasR D len 3 p 0 (fun _ => 0) o) (hd : cD len D w) (hn : w.1 9 20 8 = iN n) (hp : w.1 1 0 2 = iN p) (hpl : p ≤ len) (hY : n < 6 → ∀ q, q < 12 * n → w.1 10 20 q = iN (Y q)) (h1 : ∀ X p, o = some (X, p) → ∀ w', gF w w' → w'.1 1 0 2 = iN p → (n < 6 → pxI n Y X 3 w') → (6 ≤ n → ∀ q, w'.1 10 20 q = w.1 10 20 q) → Q w' (some (zI 1))) (h0 : o = none → ∀ w', gF w w' → Q w' (some (zI 0))) :
    cRun kR_readRaster (0, [some (zR 7 0), some (zR 9 20), none, none, none], [], w) Q := by
  refine z_C.go 4 rfl ?_
  exact e_ras_lp (W0 := w) hn2 h1 h0 3 p 0 _ w none (by decide) (by decide) hr hd (gF.rf w) hn hp hpl (fun h => ⟨hY h, fun q hq => by omega⟩) (fun _ _ => rfl)
theorem e_pgs_lp {o : Option (Nat × (Nat → Nat))} {W0 : z_W} {x1 : Int32} (h1 : ∀ n Y, o = some (n, Y) → ∀ w', pF W0 w' → w'.1 9 20 8 = iN n → n ≤ 240 → (∀ q, q < 12 * n → q < 72 → w'.1 10 20 q = iN (Y q)) → Q w' (some (zI (if 0 < n then 1 else 0)))) (h0 : o = none → ∀ w', pF W0 w' → Q w' (some (zI 0))) :
    ∀ (f p n : Nat) (Y : Nat → Nat) (w : z_W), f + n = 240 → pgsR D len f p n Y o → cD len D w → pF W0 w → w.1 9 20 8 = iN n → w.1 1 0 2 = iN p → p ≤ len → (∀ q, q < 12 * n → q < 72 → w.1 10 20 q = iN (Y q)) →
    cRun kR_read (10, [some (zR 7 0), some (zI x1), some (zR 9 20), some (zI (iN n))], [], w) Q := by
  have fin : ∀ (n : Nat) (Y : Nat → Nat) (w : z_W) (i : Int32), o = some (n, Y) → pF W0 w → w.1 9 20 8 = iN n → n ≤ 240 → (∀ q, q < 12 * n → q < 72 → w.1 10 20 q = iN (Y q)) → cRun kR_read (66, [some (zR 7 0), some (zI x1), some (zR 9 20), some (zI i)], [], w) Q := fun n Y w i ho hF hn hn2 hY => by
    have k9 := h1 n Y ho w hF hn hn2 hY
    refine z_C.go 1 rfl ?_
    refine z_C.ld rfl rfl hn ?_
    refine z_C.go 1 rfl ?_
    refine z_C.if (fun h => ?_) (fun h => ?_)
    · have h := (iN_le (b := 0) (by omega) (by decide)).mp h
      rw [if_neg (by omega)] at k9
      refine z_C.go 1 rfl ?_
      exact z_C.ret rfl rfl k9
    · have h : ¬ n ≤ 0 := fun h9 => h ((iN_le (b := 0) (by omega) (by decide)).mpr h9)
      rw [if_pos (by omega)] at k9
      refine z_C.go 2 rfl ?_
      exact z_C.ret rfl rfl k9
  intro f
  induction f with
  | zero =>
    intro p n Y w hf hr hd hF hn hp hpl hY
    have e : n = 240 := by omega
    subst e
    refine z_C.go 3 rfl ?_
    refine z_C.if (fun _ => ?_) (fun h => absurd (by decide) h)
    exact fin 240 Y w _ hr.2 hF hn (by decide) hY
  | succ f ih =>
    intro p n Y w hf hr hd hF hn hp hpl hY
    have hlen := hd.1
    refine z_C.go 3 rfl ?_
    refine z_C.if (fun h => absurd ((iN_le (a := 240) (by decide) (by omega)).mp h) (by omega)) (fun _ => ?_)
    refine z_C.go 3 rfl ?_
    by_cases hpl2 : p < len
    · have hD := (hd.2.2 p hpl2).2
      refine z_C.call rfl rfl (zC_up (C' := zC) (k_has (p := p) (k := 1) (Q := fun w2 r => w2 = w ∧ r = some (zI 1)) hd hp hpl (by decide) ⟨rfl, by rw [if_pos (show p + 1 ≤ len by omega)]⟩)) (fun w2 r h => ?_)
      obtain ⟨rfl, rfl⟩ := h
      refine z_C.go 1 rfl ?_
      refine z_C.if (fun h => absurd h (by decide)) (fun _ => ?_)
      refine z_C.go 2 rfl ?_
      refine z_C.call rfl rfl (e_next (p := p) (Q := fun w' r => cuF w2 w' ∧ w'.1 1 0 2 = iN (p + 1) ∧ r = some (zI (iN (D p)))) hd hp (by omega) (fun _ w' a b => ⟨a, b, rfl⟩) (fun h => absurd hpl2 h)) (fun w1 r h => ?_)
      obtain ⟨f1, p1, rfl⟩ := h
      refine z_C.go 2 rfl ?_
      refine z_C.if (fun h => ?_) (fun h => ?_)
      · have h80 : D p = 80 := (iN_inj (b := 80) (by omega) (by decide)).mp h
        obtain ⟨o1, hr1, hr2⟩ : ∃ o1, rasR D len 3 (p + 1) 0 (fun _ => 0) o1 ∧ ((o1 = none ∧ o = none) ∨ ∃ X p1, o1 = some (X, p1) ∧ pgsR D len f p1 (n + 1) (putP Y n X) o) := by
          rcases hr with ⟨h, -⟩ | ⟨-, h, -⟩ | ⟨-, -, h⟩
          · omega
          · exact absurd h80 h
          · exact h
        have hn1 : w1.1 9 20 8 = iN n := (f1.2 9 20 8 (by omega)).trans hn
        have hY1 : n < 6 → ∀ q, q < 12 * n → w1.1 10 20 q = iN (Y q) := fun h6 q hq => (f1.2 10 20 q (by omega)).trans (hY q hq (by omega))
        refine z_C.go 2 rfl ?_
        cases o1 with
        | none =>
          have ho : o = none := by
            rcases hr2 with ⟨-, h⟩ | ⟨R, p9, h, -⟩
            · exact h
            · cases h
          refine z_C.call rfl rfl (e_ras (n := n) (p := p + 1) (Y := Y) (Q := fun w' r => gF w1 w' ∧ r = some (zI 0)) (by omega) hr1 (hd.cu f1) hn1 p1 (by omega) hY1 (fun R p9 h => by cases h) (fun _ w' a => ⟨a, rfl⟩)) (fun w3 r h => ?_)
          obtain ⟨f3, rfl⟩ := h
          refine z_C.go 1 rfl ?_
          refine z_C.if (fun _ => ?_) (fun h => absurd (by decide) h)
          refine z_C.go 1 rfl ?_
          exact z_C.ret rfl rfl (h0 ho w3 ((hF.tr (pF.cu f1)).tr f3.p))
        | some x =>
          obtain ⟨X, p9⟩ := x
          have hr3 : pgsR D len f p9 (n + 1) (putP Y n X) o := by
            rcases hr2 with ⟨h, -⟩ | ⟨R', p', h, h9⟩
            · cases h
            · cases h
              exact h9
          have hp9 := (rasR_ge _ _ _ _ _ _ hr1).2 (by omega)
          refine z_C.call rfl rfl (e_ras (n := n) (p := p + 1) (Y := Y) (Q := fun w' r => (gF w1 w' ∧ w'.1 1 0 2 = iN p9 ∧ (n < 6 → pxI n Y X 3 w') ∧ (6 ≤ n → ∀ q, w'.1 10 20 q = w1.1 10 20 q)) ∧ r = some (zI 1)) (by omega) hr1 (hd.cu f1) hn1 p1 (by omega) hY1 (fun X' p' h w' a b c d => by
            cases h
            exact ⟨⟨a, b, c, d⟩, rfl⟩) (fun h => by cases h)) (fun w3 r h => ?_)
          obtain ⟨⟨f3, p3, px3, eq3⟩, rfl⟩ := h
          have hn3 : w3.1 9 20 8 = iN n := (f3.2 9 20 8 (by omega) (by omega) (by omega)).trans hn1
          refine z_C.go 1 rfl ?_
          refine z_C.if (fun h => absurd h (by decide)) (fun _ => ?_)
          refine z_C.go 2 rfl ?_
          refine z_C.ld rfl rfl hn3 ?_
          refine z_C.go 5 rfl ?_
          have hF4 : pF W0 (z_si w3 9 20 8 (iN n + 1)) := ((hF.tr (pF.cu f1)).tr f3.p).tr ⟨rfl, fun g i k _ _ _ d => if_neg (fun h => d ⟨h.1, h.2.1, h.2.2⟩)⟩
          have k9 := ih p9 (n + 1) (putP Y n X) (z_si w3 9 20 8 (iN n + 1)) (by omega) hr3 (((hd.cu f1).pF f3.p).pF ⟨rfl, fun g i k _ _ _ d => if_neg (fun h => d ⟨h.1, h.2.1, h.2.2⟩)⟩) hF4 (iN_add n 1) p3 hp9 (fun q hq hq2 => by
            show w3.1 10 20 q = _
            unfold putP
            by_cases h6 : n < 6
            · by_cases hq3 : 12 * n ≤ q
              · rw [if_pos ⟨h6, hq3, by omega⟩]
                have := (px3 h6).2 (q - 12 * n) (by omega)
                rw [show 12 * n + (q - 12 * n) = q by omega] at this
                exact this
              · rw [if_neg (fun h => hq3 h.2.1)]
                exact (px3 h6).1 q (by omega)
            · rw [if_neg (fun h => h6 h.1), eq3 (by omega) q, f1.2 10 20 q (by omega)]
              exact hY q (by omega) hq2)
          rw [← iN_add n 1] at k9
          exact k9
      · have h80 : ¬ D p = 80 := fun h9 => h (by rw [h9]; rfl)
        have ho : o = none := by
          rcases hr with ⟨h, -⟩ | ⟨-, -, h⟩ | ⟨-, h, -⟩
          · omega
          · exact h
          · exact absurd h h80
        refine z_C.go 1 rfl ?_
        exact z_C.ret rfl rfl (h0 ho w1 (hF.tr (pF.cu f1)))
    · refine z_C.call rfl rfl (zC_up (C' := zC) (k_has (p := p) (k := 1) (Q := fun w2 r => w2 = w ∧ r = some (zI 0)) hd hp hpl (by decide) ⟨rfl, by rw [if_neg (show ¬ p + 1 ≤ len by omega)]⟩)) (fun w2 r h => ?_)
      obtain ⟨rfl, rfl⟩ := h
      refine z_C.go 1 rfl ?_
      refine z_C.if (fun _ => ?_) (fun h => absurd (by decide) h)
      have ho : o = some (n, Y) := by
        rcases hr with ⟨-, h⟩ | ⟨h, -⟩ | ⟨h, -⟩
        · exact h
        · omega
        · omega
      exact fin n Y w2 _ ho hF hn (by omega) hY
theorem e_pages {d : Nat} {o : Option (Nat × (Nat → Nat))} {w : z_W} (hr : pgsR D len 240 d 0 (fun _ => 0) o) (hd : cD len D w) (hn : w.1 9 20 8 = iN 0) (hdl : d ≤ len) (h1 : ∀ n Y, o = some (n, Y) → ∀ w', pF w w' → w'.1 9 20 8 = iN n → n ≤ 240 → (∀ q, q < 12 * n → q < 72 → w'.1 10 20 q = iN (Y q)) → Q w' (some (zI (if 0 < n then 1 else 0)))) (h0 : o = none → ∀ w', pF w w' → Q w' (some (zI 0))) :
    cRun kR_read (0, [some (zR 7 0), some (zI (iN d)), some (zR 9 20), none], [], w) Q := by
  refine z_C.go 3 rfl ?_
  refine z_C.call (Q' := fun w2 r => w2 = z_si w 1 0 2 (iN d) ∧ r = none) rfl rfl ?_ (fun w2 r h => ?_)
  · refine z_C.go 3 rfl ?_
    exact z_C.ret rfl rfl ⟨rfl, rfl⟩
  obtain ⟨rfl, rfl⟩ := h
  refine z_C.go 2 rfl ?_
  exact e_pgs_lp (W0 := w) h1 h0 240 d 0 _ _ rfl hr (hd.cu cuF.si) (pF.cu cuF.si) hn rfl hdl (fun q hq => by omega)
end PC2
