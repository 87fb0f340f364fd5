/-! pages: the class -/
def pF (w w' : z_W) : Prop := w'.2 = w.2 ∧ ∀ g i k, ¬ (g = 1 ∧ i = 0 ∧ k = 2) → ¬ g = 8 → ¬ (g = 10 ∧ i = 20) → ¬ (g = 9 ∧ i = 20 ∧ k = 8) → w'.1 g i k = w.1 g i k
theorem pF.rf (w : z_W) : pF w w := ⟨rfl, fun _ _ _ _ _ _ _ => rfl⟩
theorem pF.tr {w w' w'' : z_W} (h1 : pF w w') (h2 : pF w' w'') : pF w w'' := ⟨h2.1.trans h1.1, fun g i k a b c d => (h2.2 g i k a b c d).trans (h1.2 g i k a b c d)⟩
theorem pF.cu {w w' : z_W} (h : cuF w w') : pF w w' := ⟨h.1, fun g i k a _ _ _ => h.2 g i k a⟩
theorem pF.s8 {w : z_W} {k : Nat} {x : Int32} : pF w (z_si w 8 0 k x) := ⟨rfl, fun g i q _ b _ _ => if_neg (fun h => b h.1)⟩
theorem cD.pF {len : Nat} {D : Nat → Nat} {w w' : z_W} (h : cD len D w) (hf : pF w w') : cD len D w' :=
  ⟨h.1, (hf.2 1 0 1 (by omega) (by omega) (by omega) (by omega)).trans h.2.1, fun k hk => ⟨(hf.2 2 0 k (by omega) (by omega) (by omega) (by omega)).trans (h.2.2 k hk).1, (h.2.2 k hk).2⟩⟩
/-- only the row and the cursor -/
def rF (w w' : z_W) : Prop := w'.2 = w.2 ∧ ∀ g i k, ¬ (g = 1 ∧ i = 0 ∧ k = 2) → ¬ g = 8 → w'.1 g i k = w.1 g i k
theorem rF.rf (w : z_W) : rF w w := ⟨rfl, fun _ _ _ _ _ => rfl⟩
theorem rF.tr {w w' w'' : z_W} (h1 : rF w w') (h2 : rF w' w'') : rF w w'' := ⟨h2.1.trans h1.1, fun g i k a b => (h2.2 g i k a b).trans (h1.2 g i k a b)⟩
theorem rF.cu {w w' : z_W} (h : cuF w w') : rF w w' := ⟨h.1, fun g i k a _ => h.2 g i k a⟩
theorem rF.s8 {w : z_W} {k : Nat} {x : Int32} : rF w (z_si w 8 0 k x) := ⟨rfl, fun g i q _ b => if_neg (fun h => b h.1)⟩
theorem rF.p {w w' : z_W} (h : rF w w') : pF w w' := ⟨h.1, fun g i k a b _ _ => h.2 g i k a b⟩
section PC
variable {len : Nat} {D : Nat → Nat} {Q : z_W → Option z_V → Prop}
theorem k_run {h : Nat} {w : z_W} (hh : h < 256) (hq : Q w (some (zI (iN (if h = 128 then 0 else runN h))))) : z_C sC zM zCr kR_runLength (0, [some (zI (iN h))], [], w) Q := by
  unfold runN at hq
  refine z_C.go 2 rfl ?_
  refine z_C.if (fun h9 => absurd h9 (idx_ng (by omega))) (fun _ => ?_)
  refine z_C.go 3 rfl ?_
  refine z_C.if (fun h9 => ?_) (fun h9 => ?_)
  · have h9 : h = 128 := (iN_inj (b := 128) (by omega) (by decide)).mp h9
    rw [if_pos h9] at hq
    refine z_C.go 1 rfl ?_
    exact z_C.ret rfl rfl hq
  · have h9 : ¬ h = 128 := fun h8 => h9 ((iN_inj (b := 128) (by omega) (by decide)).mpr h8)
    rw [if_neg h9] at hq
    refine z_C.go 3 rfl ?_
    refine z_C.if (fun h8 => ?_) (fun h8 => ?_)
    · have h8 := (iN_le (a := 128) (by decide) (by omega)).mp h8
      rw [if_neg (by omega)] at hq
      refine z_C.go 3 rfl ?_
      rw [show (257 : Int32) - iN h = iN (257 - h) from iN_sub (a := 257) (by omega)]
      exact z_C.ret rfl rfl hq
    · have h8 : h < 128 := Nat.lt_of_not_le (fun h7 => h8 ((iN_le (a := 128) (by decide) (by omega)).mpr h7))
      rw [if_pos h8] at hq
      refine z_C.go 4 rfl ?_
      rw [show iN h + 1 = iN (h + 1) from iN_add h 1]
      exact z_C.ret rfl rfl hq
theorem k_runN {w : z_W} (hq : Q w (some (zI 0))) : z_C sC zM zCr kR_runLength (0, [some (zI (-1))], [], w) Q := by
  refine z_C.go 2 rfl ?_
  refine z_C.if (fun _ => ?_) (fun h => absurd (by decide) h)
  refine z_C.go 1 rfl ?_
  exact z_C.ret rfl rfl hq
/-- the pixels of one run -/
theorem e_run_loop {p c n : Nat} {i h : Int32} {R : Nat → Nat} {W0 : z_W} (hn : n = runN (D p)) (hn1 : 1 ≤ n) (hcn : c + n ≤ 4) (hpl : p < len) (hD : D p < 256) (h1 : D p < 128 → p + 2 ≤ len) (h2 : 128 < D p → p + 1 + n ≤ len) (h128 : ¬ D p = 128)
    (K : ∀ w x, rF W0 w → w.1 1 0 2 = iN (rowN D p) → (∀ x, x < c + n → w.1 8 0 x = iN (rowS D p c R x)) → cRun kR_readRow (121, [some (zR 7 0), some (zI (iN c)), some (zI i), some (zI h), some (zI (iN (c + n))), some (zI (iN (if D p < 128 then 1 else n))), x], [], w) Q) :
    ∀ (d x : Nat) (w : z_W), x + d = c + n → c ≤ x → cD len D w → rF W0 w → w.1 1 0 2 = iN (if x = c then p + 1 else if D p < 128 then p + 2 else p + 1 + (x - c)) → (∀ y, y < x → w.1 8 0 y = iN (rowS D p c R y)) →
    cRun kR_readRow (76, [some (zR 7 0), some (zI (iN c)), some (zI i), some (zI h), some (zI (iN (c + n))), some (zI (iN (if D p < 128 then 1 else n))), some (zI (iN x))], [], w) Q := by
  intro d
  induction d with
  | zero =>
    intro x w hx hcx hd hF hp hv
    refine z_C.go 3 rfl ?_
    refine z_C.if (fun _ => ?_) (fun h => absurd ((iN_le (by omega) (by omega)).mpr (by omega)) h)
    refine K w _ hF ?_ (fun y hy => hv y (by omega))
    rw [hp, if_neg (by omega)]
    unfold rowN
    split
    · rfl
    · rw [show x - c = runN (D p) by omega]
  | succ d ih =>
    intro x w hx hcx hd hF hp hv
    have hlen := hd.1
    have i1 : z_in (iN x) 4 = true := iN_in (by omega) (by omega)
    have nx : (iN x).toNatClampNeg = x := iN_nat (by omega)
    have eb : iN c + iN (if D p < 128 then 1 else n) = iN (c + (if D p < 128 then 1 else n)) := iN_add _ _
    refine z_C.go 3 rfl ?_
    refine z_C.if (fun h => absurd ((iN_le (by omega) (by omega)).mp h) (by omega)) (fun _ => ?_)
    refine z_C.go 8 rfl ?_
    -- a value b is put at x
    have put : ∀ (b : Nat) (w1 : z_W), rF W0 w1 → cD len D w1 → (∀ y, y < x → w1.1 8 0 y = iN (rowS D p c R y)) → rowS D p c R x = b → w1.1 1 0 2 = iN (if D p < 128 then p + 2 else p + 1 + (x + 1 - c)) → cRun kR_readRow (114, [some (zR 7 0), some (zI (iN c)), some (zI i), some (zI h), some (zI (iN (c + n))), some (zI (iN (if D p < 128 then 1 else n))), some (zI (iN x))], [zI (iN b), zI (iN x), zR 8 0], w1) Q := fun b w1 hF1 hd1 hv1 hb hp1 => by
      refine z_C.go1 rfl (if_pos ⟨rfl, i1⟩) ?_
      refine z_C.go 2 rfl ?_
      have k9 := ih (x + 1) (z_si w1 8 0 (iN x).toNatClampNeg (iN b)) (by omega) (by omega) (hd1.pF (rF.s8 (w := w1)).p) (hF1.tr rF.s8) (by
        rw [if_neg (by omega)]
        exact hp1) (fun y hy => by
        rw [nx]
        show (if 8 = 8 ∧ 0 = 0 ∧ y = x then iN b else w1.1 8 0 y) = _
        by_cases e : y = x
        · rw [if_pos ⟨rfl, rfl, e⟩, e, hb]
        · rw [if_neg (fun h => e h.2.2)]
          exact hv1 y (by omega))
      rw [← iN_add x 1] at k9
      exact k9
    by_cases h8 : D p < 128
    · by_cases ex : x = c
      · have hc : c + (if D p < 128 then 1 else n) = c + 1 := by rw [if_pos h8]
        refine z_C.if (fun h => ?_) (fun _ => ?_)
        · have h : iN c + iN (if D p < 128 then 1 else n) ≤ iN x := h
          rw [eb, hc, iN_le (by omega) (by omega)] at h
          omega
        have hp' : w.1 1 0 2 = iN (p + 1) := by rw [hp, if_pos ex]
        refine z_C.go 2 rfl ?_
        refine z_C.call rfl rfl (e_next (p := p + 1) (Q := fun w' r => cuF w w' ∧ w'.1 1 0 2 = iN (p + 1 + 1) ∧ r = some (zI (iN (D (p + 1))))) hd hp' (by omega) (fun _ w' a b => ⟨a, b, rfl⟩) (fun h => absurd (by have := h1 h8; omega) h)) (fun w' r h => ?_)
        obtain ⟨f1, p1, rfl⟩ := h
        refine z_C.go 1 rfl ?_
        refine put (D (p + 1)) w' (hF.tr (rF.cu f1)) (hd.cu f1) (fun y hy => (f1.2 8 0 y (by omega)).trans (hv y hy)) ?_ (by rw [if_pos h8]; exact p1)
        unfold rowS
        rw [if_pos (by omega), if_pos h8]
      · have hc : c + (if D p < 128 then 1 else n) = c + 1 := by rw [if_pos h8]
        refine z_C.if (fun _ => ?_) (fun h => absurd (show iN c + iN (if D p < 128 then 1 else n) ≤ iN x by rw [eb, hc]; exact (iN_le (by omega) (by omega)).mpr (by omega)) h)
        have vc : w.1 8 0 (iN c).toNatClampNeg = iN (D (p + 1)) := by
          rw [iN_nat (by omega), hv c (by omega)]
          unfold rowS
          rw [if_pos (by omega), if_pos h8]
        refine z_C.go 3 rfl ?_
        refine z_C.ld rfl (if_pos ⟨rfl, iN_in (show c < 4 by omega) (by decide)⟩) vc ?_
        refine put (D (p + 1)) w hF hd hv ?_ (by rw [hp, if_neg ex, if_pos h8, if_pos h8])
        unfold rowS
        rw [if_pos (by omega), if_pos h8]
    · have hc : c + (if D p < 128 then 1 else n) = c + n := by rw [if_neg h8]
      have hp' : w.1 1 0 2 = iN (p + 1 + (x - c)) := by
        rw [hp]
        by_cases ex : x = c
        · rw [if_pos ex, ex, Nat.sub_self]
        · rw [if_neg ex, if_neg h8]
      refine z_C.if (fun h => ?_) (fun _ => ?_)
      · have h : iN c + iN (if D p < 128 then 1 else n) ≤ iN x := h
        rw [eb, hc, iN_le (by omega) (by omega)] at h
        omega
      have hl := h2 (by omega)
      refine z_C.go 2 rfl ?_
      refine z_C.call rfl rfl (e_next (p := p + 1 + (x - c)) (Q := fun w' r => cuF w w' ∧ w'.1 1 0 2 = iN (p + 1 + (x - c) + 1) ∧ r = some (zI (iN (D (p + 1 + (x - c)))))) hd hp' (by omega) (fun _ w' a b => ⟨a, b, rfl⟩) (fun h => absurd (by omega) h)) (fun w' r h => ?_)
      obtain ⟨f1, p1, rfl⟩ := h
      refine z_C.go 1 rfl ?_
      refine put (D (p + 1 + (x - c))) w' (hF.tr (rF.cu f1)) (hd.cu f1) (fun y hy => (f1.2 8 0 y (by omega)).trans (hv y hy)) ?_ (by rw [if_neg h8, p1, show p + 1 + (x - c) + 1 = p + 1 + (x + 1 - c) by omega])
      unfold rowS
      rw [if_pos (by omega), if_neg h8]
theorem e_row_lp {o : Option ((Nat → Nat) × Nat)} {W0 : z_W} (h1 : ∀ R p, o = some (R, p) → ∀ w', rF W0 w' → w'.1 1 0 2 = iN p → (∀ x, x < 4 → w'.1 8 0 x = iN (R x)) → Q w' (some (zI 1))) (h0 : o = none → ∀ w', rF W0 w' → Q w' (some (zI 0))) :
    ∀ (f p c : Nat) (R : Nat → Nat) (w : z_W) (x3 x4 x5 x6 : Option z_V), f ≤ 4 → c ≤ 4 → rowR D len f p c R o → cD len D w → rF W0 w → w.1 1 0 2 = iN p → p ≤ len → (∀ x, x < c → w.1 8 0 x = iN (R x)) → cRun kR_readRow (4, [some (zR 7 0), some (zI (iN c)), some (zI (iN (4 - f))), x3, x4, x5, x6], [], w) Q := by
  have fin : ∀ (p : Nat) (R : Nat → Nat) (w : z_W) (i : Int32) (x3 x4 x5 x6 : Option z_V), o = some (R, p) → rF W0 w → w.1 1 0 2 = iN p → (∀ x, x < 4 → w.1 8 0 x = iN (R x)) → cRun kR_readRow (130, [some (zR 7 0), some (zI (iN 4)), some (zI i), x3, x4, x5, x6], [], w) Q := fun p R w i x3 x4 x5 x6 ho hF hp hv => by
    refine z_C.go 3 rfl ?_
    refine z_C.if (fun _ => ?_) (fun h => absurd (by decide) h)
    refine z_C.go 2 rfl ?_
    exact z_C.ret rfl rfl (h1 R p ho w hF hp hv)
  intro f
  induction f with
  | zero =>
    intro p c R w x3 x4 x5 x6 hf hc hr hd hF hp hpl hv
    obtain ⟨rfl, ho⟩ := hr
    refine z_C.go 3 rfl ?_
    refine z_C.if (fun _ => ?_) (fun h => absurd (by decide) h)
    exact fin p R w _ _ _ _ _ ho hF hp hv
  | succ f ih =>
    intro p c R w x3 x4 x5 x6 hf hc hr hd hF hp hpl hv
    have hlen := hd.1
    refine z_C.go 3 rfl ?_
    refine z_C.if (fun h => absurd ((iN_le (a := 4) (by decide) (by omega)).mp h) (by omega)) (fun _ => ?_)
    refine z_C.go 3 rfl ?_
    by_cases h4 : c = 4
    · subst h4
      refine z_C.if (fun _ => ?_) (fun h => absurd (by decide) h)
      have ho : o = some (R, p) := by
        rcases hr with ⟨-, h⟩ | ⟨h, -⟩ | ⟨h, -⟩
        · exact h
        · omega
        · omega
      exact fin p R w _ _ _ _ _ ho hF hp hv
    · refine z_C.if (fun h => absurd ((iN_le (a := 4) (by decide) (by omega)).mp h) (by omega)) (fun _ => ?_)
      refine z_C.go 2 rfl ?_
      have hbad : ¬ rowOK D len p c → o = none := fun hn => by
        rcases hr with ⟨h, -⟩ | ⟨-, h, -⟩ | ⟨-, -, h⟩
        · omega
        · exact absurd h hn
        · exact h
      by_cases hpl2 : p < len
      · have hD := (hd.2.2 p hpl2).2
        refine z_C.call rfl rfl (e_next (p := p) (Q := fun w' r => cuF w w' ∧ w'.1 1 0 2 = iN (p + 1) ∧ r = some (zI (iN (D p)))) hd hp (by omega) (fun _ w' a b => ⟨a, b, rfl⟩) (fun h => absurd hpl2 h)) (fun w1 r h => ?_)
        obtain ⟨f1, p1, rfl⟩ := h
        have hF1 := hF.tr (rF.cu f1)
        have hd1 := hd.cu f1
        refine z_C.go 3 rfl ?_
        refine z_C.call rfl rfl (zC_up (C' := zC) (k_run (h := D p) (Q := fun w' r => w' = w1 ∧ r = some (zI (iN (if D p = 128 then 0 else runN (D p))))) hD ⟨rfl, rfl⟩)) (fun w' r h => ?_)
        obtain ⟨rfl, rfl⟩ := h
        have er : iN c + iN (if D p = 128 then 0 else runN (D p)) = iN (c + (if D p = 128 then 0 else runN (D p))) := iN_add _ _
        have hrn : runN (D p) < 300 := by unfold runN; split <;> omega
        refine z_C.go 5 rfl ?_
        rw [er]
        by_cases h128 : D p = 128
        · rw [if_pos h128, h128]
          refine z_C.if (fun _ => ?_) (fun h => absurd (by decide) h)
          refine z_C.go 7 rfl ?_
          refine z_C.if (fun _ => ?_) (fun h => absurd ((iN_le (by omega) (by omega)).mpr (by omega)) h)
          refine z_C.go 1 rfl ?_
          exact z_C.ret rfl rfl (h0 (hbad (fun h => h.2.1 h128)) w' hF1)
        · rw [if_neg h128]
          have hr1 := runN_1 hD
          have key : ∀ LB : Nat, LB = (if D p < 128 then 1 else runN (D p)) → cRun kR_readRow (47, [some (zR 7 0), some (zI (iN c)), some (zI (iN (4 - (f + 1)))), some (zI (iN (D p))), some (zI (iN (c + runN (D p)))), some (zI (iN LB)), x6], [], w') Q := fun LB hLB => by
            refine z_C.go 3 rfl ?_
            refine z_C.if (fun h => absurd ((iN_le (by omega) (by omega)).mp h) (by omega)) (fun _ => ?_)
            refine z_C.go 3 rfl ?_
            refine z_C.if (fun h => ?_) (fun h => ?_)
            · have h := (iN_lt (a := 4) (by decide) (by omega)).mp h
              refine z_C.go 1 rfl ?_
              exact z_C.ret rfl rfl (h0 (hbad (fun h9 => by have := h9.2.2.1; omega)) w' hF1)
            · have hc4 : c + runN (D p) ≤ 4 := Nat.le_of_not_lt (fun h9 => h ((iN_lt (a := 4) (by decide) (by omega)).mpr h9))
              have hLB4 : LB ≤ 4 := by rw [hLB]; split <;> omega
              refine z_C.go 3 rfl ?_
              by_cases hh : p + 1 + LB ≤ len
              · refine z_C.call rfl rfl (zC_up (C' := zC) (k_has (p := p + 1) (k := LB) (Q := fun w2 r => w2 = w' ∧ r = some (zI 1)) hd1 p1 (by omega) (by omega) ⟨rfl, by rw [if_pos hh]⟩)) (fun w2 r h => ?_)
                obtain ⟨rfl, rfl⟩ := h
                have hok : rowOK D len p c := ⟨hpl2, h128, hc4, fun h9 => by rw [hLB, if_pos h9] at hh; omega, fun h9 => by rw [hLB, if_neg (by omega)] at hh; exact hh⟩
                have hr2 : rowR D len f (rowN D p) (c + runN (D p)) (rowS D p c R) o := by
                  rcases hr with ⟨h, -⟩ | ⟨-, -, h⟩ | ⟨-, h, -⟩
                  · omega
                  · exact h
                  · exact absurd hok h
                refine z_C.go 1 rfl ?_
                refine z_C.if (fun h => absurd h (by decide)) (fun _ => ?_)
                refine z_C.go 2 rfl ?_
                subst hLB
                refine e_run_loop (W0 := W0) (p := p) (c := c) (n := runN (D p)) (R := R) rfl hr1 hc4 hpl2 hD hok.2.2.2.1 hok.2.2.2.2 h128 (fun w3 x hF3 hp3 hv3 => ?_) (runN (D p)) c w2 rfl (Nat.le_refl _) hd1 hF1 (by rw [if_pos rfl]; exact p1) (fun y hy => by
                  rw [(f1.2 8 0 y (by omega)), hv y hy]
                  unfold rowS
                  rw [if_neg (by omega)])
                refine z_C.go 4 rfl ?_
                have hN : rowN D p ≤ len := by
                  unfold rowN
                  split
                  · exact hok.2.2.2.1 ‹_›
                  · exact hok.2.2.2.2 (by omega)
                have hd3 : cD len D w3 := by
                  have a := hd1
                  have e : ∀ k, w3.1 2 0 k = w.1 2 0 k := fun k => by rw [hF3.2 2 0 k (by omega) (by omega), hF.2 2 0 k (by omega) (by omega)]
                  exact ⟨hd.1, by rw [hF3.2 1 0 1 (by omega) (by omega), ← hF.2 1 0 1 (by omega) (by omega)]; exact hd.2.1, fun k hk => by rw [e]; exact hd.2.2 k hk⟩
                have k9 := ih (rowN D p) (c + runN (D p)) (rowS D p c R) w3 (some (zI (iN (D p)))) (some (zI (iN (c + runN (D p))))) (some (zI (iN (if D p < 128 then 1 else runN (D p))))) x (by omega) hc4 hr2 hd3 hF3 hp3 hN hv3
                rw [show 4 - f = 4 - (f + 1) + 1 by omega, ← iN_add _ 1] at k9
                exact k9
              · refine z_C.call rfl rfl (zC_up (C' := zC) (k_has (p := p + 1) (k := LB) (Q := fun w2 r => w2 = w' ∧ r = some (zI 0)) hd1 p1 (by omega) (by omega) ⟨rfl, by rw [if_neg hh]⟩)) (fun w2 r h => ?_)
                obtain ⟨rfl, rfl⟩ := h
                refine z_C.go 1 rfl ?_
                refine z_C.if (fun _ => ?_) (fun h => absurd (by decide) h)
                refine z_C.go 1 rfl ?_
                refine z_C.ret rfl rfl (h0 (hbad (fun h9 => hh ?_)) w2 hF1)
                rw [hLB]
                split
                · have := h9.2.2.2.1 ‹_›
                  omega
                · exact h9.2.2.2.2 (by omega)
          refine z_C.if (fun h => ?_) (fun h => ?_)
          · have h := (iN_le (a := 128) (by decide) (by omega)).mp h
            refine z_C.go 4 rfl ?_
            have k9 := key (runN (D p)) (by rw [if_neg (by omega)])
            have ed : iN (c + runN (D p)) - iN c = iN (runN (D p)) := by rw [iN_sub (by omega), Nat.add_sub_cancel_left]
            rw [← ed] at k9
            exact k9
          · have h : D p < 128 := Nat.lt_of_not_le (fun h9 => h ((iN_le (a := 128) (by decide) (by omega)).mpr h9))
            refine z_C.go 3 rfl ?_
            exact key 1 (by rw [if_pos h])
      · refine z_C.call rfl rfl (e_next (p := p) (Q := fun w' r => w' = w ∧ r = some (zI (-1))) hd hp (by omega) (fun h => absurd h hpl2) (fun _ => ⟨rfl, rfl⟩)) (fun w1 r h => ?_)
        obtain ⟨rfl, rfl⟩ := h
        refine z_C.go 3 rfl ?_
        refine z_C.call rfl rfl (zC_up (C' := zC) (k_runN (Q := fun w' r => w' = w1 ∧ r = some (zI 0)) ⟨rfl, rfl⟩)) (fun w' r h => ?_)
        obtain ⟨rfl, rfl⟩ := h
        refine z_C.go 5 rfl ?_
        refine z_C.if (fun h => absurd h (by decide)) (fun _ => ?_)
        refine z_C.go 6 rfl ?_
        refine z_C.if (fun _ => ?_) (fun h => absurd (show iN c + 0 ≤ iN c by rw [Int32.add_zero]; exact Int32.le_refl _) h)
        refine z_C.go 1 rfl ?_
        exact z_C.ret rfl rfl (h0 (hbad (fun h => hpl2 h.1)) w' hF)
theorem e_row4 {o : Option ((Nat → Nat) × Nat)} {p : Nat} {w : z_W} (hr : rowR D len 4 p 0 (fun _ => 0) o) (hd : cD len D w) (hp : w.1 1 0 2 = iN p) (hpl : p ≤ len) (h1 : ∀ R p, o = some (R, p) → ∀ w', rF w w' → w'.1 1 0 2 = iN p → (∀ x, x < 4 → w'.1 8 0 x = iN (R x)) → Q w' (some (zI 1))) (h0 : o = none → ∀ w', rF w w' → Q w' (some (zI 0))) :
    cRun kR_readRow (0, [some (zR 7 0), none, none, none, none, none, none], [], w) Q := by
  refine z_C.go 4 rfl ?_
  exact e_row_lp (W0 := w) h1 h0 4 p 0 _ w none none none none (by decide) (by decide) hr hd (rF.rf w) hp hpl (fun x hx => by omega)
end PC
