/-! pages: the reference -/
def gM (v v' : z_W) : Prop := v'.2 = v.2 ∧ ∀ g i k, ¬ (g = 0 ∧ i = 0 ∧ k = 14) → ¬ (g = 3 ∧ 1800 ≤ k) → v'.1 g i k = v.1 g i k
theorem gM.rf (v : z_W) : gM v v := ⟨rfl, fun _ _ _ _ _ => rfl⟩
theorem gM.tr {v v' v'' : z_W} (h1 : gM v v') (h2 : gM v' v'') : gM v v'' := ⟨h2.1.trans h1.1, fun g i k a b => (h2.2 g i k a b).trans (h1.2 g i k a b)⟩
theorem gM.q {v v' : z_W} (h : gM v v') : qF v v' := ⟨h.1, fun g i k a _ _ d => h.2 g i k (fun h9 => a ⟨h9.1, by omega, by omega⟩) d⟩
theorem gM.si {v : z_W} {x : Int32} : gM v (z_si v 0 0 14 x) := ⟨rfl, fun g i k a _ => if_neg (fun h => a ⟨h.1, h.2.1, h.2.2⟩)⟩
/-- a column of one run: rows t to t + m of the n-th page have b at c -/
def colS (n t c b m : Nat) (V v : z_W) : Prop := v.2 = V.2 ∧ ∀ g i q, v.1 g i q = if n < 6 ∧ g = 3 ∧ i = 0 ∧ 1800 + 12 * n + 4 * t ≤ q ∧ q < 1800 + 12 * n + 4 * (t + m) ∧ q % 4 = c then iN b else V.1 g i q
theorem colS.g {n t c b m : Nat} {V v : z_W} (h : colS n t c b m V v) : gM V v := ⟨h.1, fun g i k _ d => (h.2 g i k).trans (if_neg (fun h9 => d ⟨h9.2.1, by omega⟩))⟩
/-- the pixels so far: whole pages, whole rows, and c pixels of k rows -/
def pM (n : Nat) (Y X : Nat → Nat) (t k c : Nat) (R : Nat → Nat) (v : z_W) : Prop := n < 6 → (∀ q, q < 12 * n → v.1 3 0 (1800 + q) = iN (Y q)) ∧ (∀ q, q < 4 * t → v.1 3 0 (1800 + 12 * n + q) = iN (X q)) ∧ ∀ q, 4 * t ≤ q → q < 4 * (t + k) → q % 4 < c → v.1 3 0 (1800 + 12 * n + q) = iN (R (q % 4))
def fM (n : Nat) (V v : z_W) : Prop := 6 ≤ n → ∀ q, v.1 3 0 q = V.1 3 0 q
theorem pM.si {n t k c : Nat} {Y X R : Nat → Nat} {v : z_W} {x : Int32} (h : pM n Y X t k c R v) : pM n Y X t k c R (z_si v 0 0 14 x) := h
theorem pM.put {n t k c b : Nat} {Y X R : Nat → Nat} {V v : z_W} (h : pM n Y X t k c R V) (hs : colS n t c b k V v) (hR : R c = b) (hc : c < 4) : pM n Y X t k (c + 1) R v := fun h6 => by
  obtain ⟨a1, a2, a3⟩ := h h6
  refine ⟨fun q hq => ?_, fun q hq => ?_, fun q h1 h2 h3 => ?_⟩
  · rw [hs.2, if_neg (by omega)]
    exact a1 q hq
  · rw [hs.2, if_neg (by omega)]
    exact a2 q hq
  · rw [hs.2]
    by_cases e : q % 4 = c
    · rw [if_pos (by omega), e, hR]
    · rw [if_neg (by omega)]
      exact a3 q h1 h2 (by omega)
theorem colS.f {n t c b m : Nat} {V v W : z_W} (h : colS n t c b m V v) (hf : fM n W V) : fM n W v := fun h6 q => by
  rw [h.2, if_neg (by omega)]
  exact hf h6 q
section PM
variable {len : Nat} {D : Nat → Nat} {Q : z_W → Option z_V → Prop}
theorem m_col {n t k c b : Nat} {to h rn i : Int32} {V : z_W} (hT : (n < 6 ∧ to = iN (1800 + 12 * n)) ∨ (6 ≤ n ∧ to = -1)) (htk : t + k ≤ 3) (hc : c < 4) (K : ∀ v x9, colS n t c b k V v → mRun kX_raster (194, [some (zR 0 0), some (zI to), some (zI (iN t)), some (zI (iN k)), some (zI (iN c)), some (zI h), some (zI rn), some (zI i), some (zI (iN b)), x9], [], v) Q) :
    ∀ (d m : Nat) (v : z_W), m + d = k → colS n t c b m V v → mRun kX_raster (160, [some (zR 0 0), some (zI to), some (zI (iN t)), some (zI (iN k)), some (zI (iN c)), some (zI h), some (zI rn), some (zI i), some (zI (iN b)), some (zI (iN m))], [], v) Q := by
  intro d
  induction d with
  | zero =>
    intro m v hm hs
    have e : m = k := by omega
    subst e
    refine z_C.go 3 rfl ?_
    refine z_C.if (fun _ => ?_) (fun h9 => absurd (Int32.le_refl _) h9)
    exact K v _ hs
  | succ d ih =>
    intro m v hm hs
    refine z_C.go 3 rfl ?_
    refine z_C.if (fun h9 => absurd ((iN_le (by omega) (by omega)).mp h9) (by omega)) (fun _ => ?_)
    refine z_C.go 2 rfl ?_
    rcases hT with ⟨h6, rfl⟩ | ⟨h6, rfl⟩
    · refine z_C.if (fun h9 => absurd h9 (idx_ng (by omega))) (fun _ => ?_)
      refine z_C.go 12 rfl ?_
      have ei : iN (1800 + 12 * n) + 4 * (iN t + iN m) + iN c = iN (1800 + 12 * n + 4 * (t + m) + c) := by
        rw [iN_add t m, show (4 : Int32) * iN (t + m) = iN (4 * (t + m)) from iN_mul 4 (t + m), iN_add, iN_add]
      rw [ei]
      have i1 : z_in (iN (1800 + 12 * n + 4 * (t + m) + c)) 1872 = true := iN_in (by omega) (by omega)
      have nx : (iN (1800 + 12 * n + 4 * (t + m) + c)).toNatClampNeg = 1800 + 12 * n + 4 * (t + m) + c := iN_nat (by omega)
      refine z_C.go1 rfl (if_pos ⟨rfl, i1⟩) ?_
      rw [nx]
      refine z_C.go 2 rfl ?_
      have k9 := ih (m + 1) (z_si v 3 0 (1800 + 12 * n + 4 * (t + m) + c) (iN b)) (by omega) ⟨hs.1, fun g i q => by
        show (if g = 3 ∧ i = 0 ∧ q = 1800 + 12 * n + 4 * (t + m) + c then iN b else v.1 g i q) = _
        rw [hs.2 g i q]
        by_cases e : g = 3 ∧ i = 0 ∧ q = 1800 + 12 * n + 4 * (t + m) + c
        · rw [if_pos e, if_pos (by omega)]
        · rw [if_neg e]
          by_cases e2 : n < 6 ∧ g = 3 ∧ i = 0 ∧ 1800 + 12 * n + 4 * t ≤ q ∧ q < 1800 + 12 * n + 4 * (t + m) ∧ q % 4 = c
          · rw [if_pos e2, if_pos (by omega)]
          · rw [if_neg e2, if_neg (by omega)]⟩
      rw [← iN_add m 1] at k9
      exact k9
    · refine z_C.if (fun _ => ?_) (fun h9 => absurd (by decide) h9)
      refine K v _ ⟨hs.1, fun g i q => ?_⟩
      rw [hs.2, if_neg (by omega), if_neg (by omega)]
/-- one run of a row -/
theorem m_run_lp {n t k p c : Nat} {to : Int32} {Y X R : Nat → Nat} {V0 : z_W} {W : z_W} (hT : (n < 6 ∧ to = iN (1800 + 12 * n)) ∨ (6 ≤ n ∧ to = -1)) (htk : t + k ≤ 3) (hD : D p < 256) (hr1 : 1 ≤ runN (D p)) (hcn : c + runN (D p) ≤ 4) (hpl : p < len) (h128 : ¬ D p = 128)
    (K : ∀ v x8 x9, gM V0 v → fM n W v → v.1 0 0 14 = iN (if D p < 128 then p + 1 else p + 1 + runN (D p)) → pM n Y X t k (c + runN (D p)) (rowS D p c R) v → (D p < 128 → p + 2 ≤ len) → (128 < D p → p + 1 + runN (D p) ≤ len) → mRun kX_raster (203, [some (zR 0 0), some (zI to), some (zI (iN t)), some (zI (iN k)), some (zI (iN (c + runN (D p)))), some (zI (iN (D p))), some (zI (iN (runN (D p)))), some (zI (iN (runN (D p)))), x8, x9], [], v) Q)
    (K0 : ∀ v, gM V0 v → ¬ rowOK D len p c → Q v (some (zI 0))) :
    ∀ (d i : Nat) (v : z_W) (x8 x9 : Option z_V), i + d = runN (D p) → mD len D v → gM V0 v → fM n W v → v.1 0 0 14 = iN (if D p < 128 then p + 1 else p + 1 + i) → pM n Y X t k (c + i) (rowS D p c R) v → (0 < i → (D p < 128 → p + 2 ≤ len) ∧ (128 < D p → p + 1 + i ≤ len)) →
    mRun kX_raster (115, [some (zR 0 0), some (zI to), some (zI (iN t)), some (zI (iN k)), some (zI (iN (c + i))), some (zI (iN (D p))), some (zI (iN (runN (D p)))), some (zI (iN i)), x8, x9], [], v) Q := by
  intro d
  induction d with
  | zero =>
    intro i v x8 x9 hi hd hF hf h14 hp hl
    have e : i = runN (D p) := by omega
    subst e
    have hl := hl (by omega)
    refine z_C.go 3 rfl ?_
    refine z_C.if (fun _ => ?_) (fun h9 => absurd (Int32.le_refl _) h9)
    exact K v _ _ hF hf h14 hp hl.1 hl.2
  | succ d ih =>
    intro i v x8 x9 hi hd hF hf h14 hp hl
    have hlen := hd.1
    refine z_C.go 3 rfl ?_
    refine z_C.if (fun h9 => absurd ((iN_le (by omega) (by omega)).mp h9) (by omega)) (fun _ => ?_)
    refine z_C.go 1 rfl ?_
    by_cases hpl2 : (if D p < 128 then p + 1 else p + 1 + i) < len
    · refine z_C.call rfl rfl (m_peek (p := if D p < 128 then p + 1 else p + 1 + i) (Q := fun v' r => v' = v ∧ r = some (zI (iN (D (if D p < 128 then p + 1 else p + 1 + i))))) hd h14 (by omega) (fun _ => ⟨rfl, rfl⟩) (fun h => absurd hpl2 h)) (fun v1 r h => ?_)
      obtain ⟨rfl, rfl⟩ := h
      generalize hP : (if D p < 128 then p + 1 else p + 1 + i) = P at h14 hpl2
      have hRx : rowS D p c R (c + i) = D P := by
        unfold rowS
        rw [if_pos (by omega), ← hP]
        by_cases h8 : D p < 128
        · rw [if_pos h8, if_pos h8]
        · rw [if_neg h8, if_neg h8, show c + i - c = i by omega]
      have hDP := (hd.2.2 P hpl2).2
      refine z_C.go 3 rfl ?_
      refine z_C.if (fun _ => ?_) (fun h9 => absurd ((iN_le (a := 0) (by decide) (by omega)).mpr (by omega)) h9)
      refine z_C.go 2 rfl ?_
      refine z_C.ld rfl rfl h14 ?_
      refine z_C.go 3 rfl ?_
      have nxt : ∀ (P' : Nat), P' = (if D p < 128 then p + 1 else p + 1 + (i + 1)) → mRun kX_raster (160, [some (zR 0 0), some (zI to), some (zI (iN t)), some (zI (iN k)), some (zI (iN (c + i))), some (zI (iN (D p))), some (zI (iN (runN (D p)))), some (zI (iN i)), some (zI (iN (D P))), some (zI (iN 0))], [], z_si v1 0 0 14 (iN P')) Q := fun P' hP' => by
        refine m_col (n := n) (t := t) (k := k) (c := c + i) (b := D P) (V := z_si v1 0 0 14 (iN P')) hT htk (by omega) (fun v2 x9' hs => ?_) k 0 _ (by omega) ⟨rfl, fun g i q => by rw [if_neg (by omega)]⟩
        refine z_C.go 3 rfl ?_
        have k9 := ih (i + 1) v2 (some (zI (iN (D P)))) x9' (by omega) ((hd.q (gM.si (v := v1)).q).q hs.g.q) ((hF.tr gM.si).tr hs.g) (hs.f hf) (by
          rw [hs.2, if_neg (by omega), ← hP']
          rfl) (pM.put (c := c + i) (pM.si hp) hs hRx (by omega)) (fun _ => ⟨fun h8 => by rw [if_pos h8] at hP; omega, fun h8 => by rw [if_neg (by omega)] at hP; omega⟩)
        rw [show c + (i + 1) = c + i + 1 by omega, ← iN_add (c + i) 1, ← iN_add i 1] at k9
        exact k9
      refine z_C.if (fun h9 => ?_) (fun h9 => ?_)
      · have h9 := (iN_le (b := 128) (by omega) (by decide)).mp h9
        refine z_C.go 5 rfl ?_
        have k9 := nxt P (by rw [← hP, if_pos (by omega), if_pos (by omega)])
        rw [← Int32.add_zero (iN P)] at k9
        exact k9
      · have h9 : ¬ D p ≤ 128 := fun h8 => h9 ((iN_le (b := 128) (by omega) (by decide)).mpr h8)
        refine z_C.go 6 rfl ?_
        have k9 := nxt (P + 1) (by rw [← hP, if_neg (by omega), if_neg (by omega)]; omega)
        rw [← iN_add P 1] at k9
        exact k9
    · refine z_C.call rfl rfl (m_peek (p := if D p < 128 then p + 1 else p + 1 + i) (Q := fun v' r => v' = v ∧ r = some (zI (-1))) hd h14 (by split <;> omega) (fun h => absurd h hpl2) (fun _ => ⟨rfl, rfl⟩)) (fun v1 r h => ?_)
      obtain ⟨rfl, rfl⟩ := h
      refine z_C.go 3 rfl ?_
      refine z_C.if (fun h9 => absurd h9 (by decide)) (fun _ => ?_)
      refine z_C.go 1 rfl ?_
      refine z_C.ret rfl rfl (K0 v1 hF (fun hk => hpl2 ?_))
      split
      · have := hk.2.2.2.1 ‹_›
        omega
      · have := hk.2.2.2.2 (by omega)
        omega
theorem m_row_lp {n t k : Nat} {to : Int32} {Y X : Nat → Nat} {o : Option ((Nat → Nat) × Nat)} {V0 W : z_W} (hT : (n < 6 ∧ to = iN (1800 + 12 * n)) ∨ (6 ≤ n ∧ to = -1)) (htk : t + k ≤ 3)
    (K : ∀ R p, o = some (R, p) → ∀ v x5 x6 x7 x8 x9, gM V0 v → fM n W v → v.1 0 0 14 = iN p → pM n Y X t k 4 R v → mRun kX_raster (228, [some (zR 0 0), some (zI to), some (zI (iN t)), some (zI (iN k)), some (zI 4), x5, x6, x7, x8, x9], [], v) Q) (K0 : o = none → ∀ v, gM V0 v → Q v (some (zI 0))) :
    ∀ (f p c : Nat) (R : Nat → Nat) (v : z_W) (x5 x6 x7 x8 x9 : Option z_V), c ≤ 4 → p ≤ len → rowR D len f p c R o → mD len D v → gM V0 v → fM n W v → v.1 0 0 14 = iN p → pM n Y X t k c R v →
    mRun kX_raster (41, [some (zR 0 0), some (zI to), some (zI (iN t)), some (zI (iN k)), some (zI (iN c)), x5, x6, x7, x8, x9], [], v) Q := by
  intro f
  induction f with
  | zero =>
    intro p c R v x5 x6 x7 x8 x9 hc hpl hr hd hF hf h14 hp
    obtain ⟨rfl, ho⟩ := hr
    refine z_C.go 3 rfl ?_
    refine z_C.if (fun _ => ?_) (fun h9 => absurd (by decide) h9)
    exact K R p ho v _ _ _ _ _ hF hf h14 hp
  | succ f ih =>
    intro p c R v x5 x6 x7 x8 x9 hc hpl hr hd hF hf h14 hp
    have hlen := hd.1
    refine z_C.go 3 rfl ?_
    by_cases h4 : c = 4
    · subst h4
      have ho : o = some (R, p) := by
        rcases hr with ⟨-, h⟩ | ⟨h, -⟩ | ⟨h, -⟩
        · exact h
        · omega
        · omega
      refine z_C.if (fun _ => ?_) (fun h9 => absurd (by decide) h9)
      exact K R p ho v _ _ _ _ _ hF hf h14 hp
    · refine z_C.if (fun h => absurd ((iN_le (a := 4) (by decide) (by omega)).mp h) (by omega)) (fun _ => ?_)
      refine z_C.go 1 rfl ?_
      have hbad : ¬ rowOK D len p c → o = none := fun hn => by
        rcases hr with ⟨h, -⟩ | ⟨-, h, -⟩ | ⟨-, -, h⟩
        · omega
        · exact absurd h hn
        · exact h
      by_cases hpl2 : p < len
      · have hD := (hd.2.2 p hpl2).2
        have hr1 := runN_1 hD
        have hrn : runN (D p) < 300 := by unfold runN; split <;> omega
        refine z_C.call rfl rfl (m_peek (p := p) (Q := fun v' r => v' = v ∧ r = some (zI (iN (D p)))) hd h14 (by omega) (fun _ => ⟨rfl, rfl⟩) (fun h => absurd hpl2 h)) (fun v1 r h => ?_)
        obtain ⟨rfl, rfl⟩ := h
        refine z_C.go 3 rfl ?_
        refine z_C.ld rfl rfl h14 ?_
        refine z_C.go 5 rfl ?_
        have ea : iN p + 1 = iN (p + 1) := iN_add p 1
        rw [ea]
        have hF1 : gM V0 (z_si v1 0 0 14 (iN (p + 1))) := hF.tr gM.si
        refine z_C.if (fun h9 => absurd h9 (idx_ng (by omega))) (fun _ => ?_)
        refine z_C.go 3 rfl ?_
        refine z_C.if (fun h9 => ?_) (fun h9 => ?_)
        · have h9 : D p = 128 := (iN_inj (b := 128) (by omega) (by decide)).mp h9
          refine z_C.go 1 rfl ?_
          exact z_C.ret rfl rfl (K0 (hbad (fun h => h.2.1 h9)) _ hF1)
        · have h128 : ¬ D p = 128 := fun h8 => h9 ((iN_inj (b := 128) (by omega) (by decide)).mpr h8)
          have key : c + runN (D p) ≤ 4 → mRun kX_raster (115, [some (zR 0 0), some (zI to), some (zI (iN t)), some (zI (iN k)), some (zI (iN (c + 0))), some (zI (iN (D p))), some (zI (iN (runN (D p)))), some (zI (iN 0)), x8, x9], [], z_si v1 0 0 14 (iN (p + 1))) Q := fun hc4 => by
            refine m_run_lp (n := n) (t := t) (k := k) (p := p) (c := c) (Y := Y) (X := X) (R := R) (V0 := V0) (W := W) hT htk hD hr1 hc4 hpl2 h128 (fun v2 x8' x9' hF2 hf2 h2 hp2 l1 l2 => ?_) (fun v2 hF2 hk => K0 (hbad hk) v2 hF2) (runN (D p)) 0 _ _ _ (by omega) (hd.q (gM.si (v := v1)).q) hF1 hf (by
              show iN (p + 1) = _
              split <;> rfl) (fun h6 => ?_) (fun h => by omega)
            · have hok : rowOK D len p c := ⟨hpl2, h128, hc4, l1, l2⟩
              have hr2 : rowR D len f (rowN D p) (c + runN (D p)) (rowS D p c R) o := by
                rcases hr with ⟨h, -⟩ | ⟨-, -, h⟩ | ⟨-, h, -⟩
                · omega
                · exact h
                · exact absurd hok h
              have hN : rowN D p ≤ len := by
                unfold rowN
                split
                · exact l1 ‹_›
                · exact l2 (by omega)
              have hd2 : ∀ x, mD len D (z_si v2 0 0 14 x) := fun x => by
                have a : gM v2 (z_si v2 0 0 14 x) := gM.si
                have b := (hF2.tr a)
                exact ⟨hd.1, by rw [b.2 0 0 2 (by omega) (by omega), ← hF.2 0 0 2 (by omega) (by omega)]; exact hd.2.1, fun q hq => by rw [b.2 1 0 q (by omega) (by omega), ← hF.2 1 0 q (by omega) (by omega)]; exact hd.2.2 q hq⟩
              refine z_C.go 2 rfl ?_
              refine z_C.ld rfl rfl h2 ?_
              refine z_C.go 3 rfl ?_
              have nx : ∀ x : Int32, x = iN (rowN D p) → mRun kX_raster (41, [some (zR 0 0), some (zI to), some (zI (iN t)), some (zI (iN k)), some (zI (iN (c + runN (D p)))), some (zI (iN (D p))), some (zI (iN (runN (D p)))), some (zI (iN (runN (D p)))), x8', x9'], [], z_si v2 0 0 14 x) Q := fun x hx => ih (rowN D p) (c + runN (D p)) (rowS D p c R) (z_si v2 0 0 14 x) _ _ _ _ _ hc4 hN hr2 (hd2 x) (hF2.tr gM.si) hf2 hx (pM.si hp2)
              refine z_C.if (fun h8 => ?_) (fun h8 => ?_)
              · have h8 := (iN_le (a := 128) (by decide) (by omega)).mp h8
                refine z_C.go 4 rfl ?_
                exact nx _ (by rw [if_neg (by omega)]; unfold rowN; rw [if_neg (by omega)]; exact Int32.add_zero _)
              · have h8 : D p < 128 := Nat.lt_of_not_le (fun h7 => h8 ((iN_le (a := 128) (by decide) (by omega)).mpr h7))
                refine z_C.go 5 rfl ?_
                exact nx _ (by rw [if_pos h8]; unfold rowN; rw [if_pos h8]; exact iN_add (p + 1) 1)
            · obtain ⟨a1, a2, a3⟩ := hp h6
              refine ⟨a1, a2, fun q h1 h2 h3 => (a3 q h1 h2 h3).trans ?_⟩
              unfold rowS
              rw [if_neg (by omega)]
          refine z_C.go 3 rfl ?_
          refine z_C.if (fun h8 => ?_) (fun h8 => ?_)
          · have h8 := (iN_le (a := 128) (by decide) (by omega)).mp h8
            have er : 257 - iN (D p) = iN (runN (D p)) := by
              unfold runN
              rw [if_neg (by omega)]
              exact iN_sub (a := 257) (by omega)
            refine z_C.go 3 rfl ?_
            rw [er]
            refine z_C.go 6 rfl ?_
            refine z_C.if (fun h7 => ?_) (fun h7 => ?_)
            · have h7 : iN c + iN (runN (D p)) ≤ 4 := h7
              rw [iN_add] at h7
              have h7 := (iN_le (b := 4) (by omega) (by decide)).mp h7
              refine z_C.go 2 rfl ?_
              exact key h7
            · refine z_C.go 1 rfl ?_
              refine z_C.ret rfl rfl (K0 (hbad (fun hk => h7 ?_)) _ hF1)
              show iN c + iN (runN (D p)) ≤ 4
              rw [iN_add]
              exact (iN_le (b := 4) (by omega) (by decide)).mpr hk.2.2.1
          · have h8 : D p < 128 := Nat.lt_of_not_le (fun h7 => h8 ((iN_le (a := 128) (by decide) (by omega)).mpr h7))
            have er : iN (D p) + 1 = iN (runN (D p)) := by
              unfold runN
              rw [if_pos (by omega)]
              exact iN_add (D p) 1
            refine z_C.go 3 rfl ?_
            rw [er]
            refine z_C.go 7 rfl ?_
            refine z_C.if (fun h7 => ?_) (fun h7 => ?_)
            · have h7 : iN c + iN (runN (D p)) ≤ 4 := h7
              rw [iN_add] at h7
              have h7 := (iN_le (b := 4) (by omega) (by decide)).mp h7
              refine z_C.go 2 rfl ?_
              exact key h7
            · refine z_C.go 1 rfl ?_
              refine z_C.ret rfl rfl (K0 (hbad (fun hk => h7 ?_)) _ hF1)
              show iN c + iN (runN (D p)) ≤ 4
              rw [iN_add]
              exact (iN_le (b := 4) (by omega) (by decide)).mpr hk.2.2.1
      · refine z_C.call rfl rfl (m_peek (p := p) (Q := fun v' r => v' = v ∧ r = some (zI (-1))) hd h14 (by omega) (fun h => absurd h hpl2) (fun _ => ⟨rfl, rfl⟩)) (fun v1 r h => ?_)
        obtain ⟨rfl, rfl⟩ := h
        refine z_C.go 9 rfl ?_
        refine z_C.if (fun _ => ?_) (fun h9 => absurd (by decide) h9)
        refine z_C.go 1 rfl ?_
        exact z_C.ret rfl rfl (K0 (hbad (fun h => hpl2 h.1)) _ (hF.tr gM.si))
theorem m_ras_lp {n : Nat} {to : Int32} {Y : Nat → Nat} {o : Option ((Nat → Nat) × Nat)} {V0 W : z_W} (hT : (n < 6 ∧ to = iN (1800 + 12 * n)) ∨ (6 ≤ n ∧ to = -1))
    (K : ∀ X p, o = some (X, p) → ∀ v, gM V0 v → fM n W v → v.1 0 0 14 = iN p → pM n Y X 3 0 0 (fun _ => 0) v → Q v (some (zI 1))) (K0 : o = none → ∀ v, gM V0 v → Q v (some (zI 0))) :
    ∀ (f p t : Nat) (X : Nat → Nat) (v : z_W) (x3 x4 x5 x6 x7 x8 x9 : Option z_V), t ≤ 3 → p ≤ len → rasR D len f p t X o → mD len D v → gM V0 v → fM n W v → v.1 0 0 14 = iN p → pM n Y X t 0 0 (fun _ => 0) v →
    mRun kX_raster (2, [some (zR 0 0), some (zI to), some (zI (iN t)), x3, x4, x5, x6, x7, x8, x9], [], v) Q := by
  intro f
  induction f with
  | zero =>
    intro p t X v x3 x4 x5 x6 x7 x8 x9 ht hpl hr hd hF hf h14 hp
    obtain ⟨rfl, ho⟩ := hr
    refine z_C.go 3 rfl ?_
    refine z_C.if (fun _ => ?_) (fun h9 => absurd (by decide) h9)
    refine z_C.go 1 rfl ?_
    exact z_C.ret rfl rfl (K X p ho v hF hf h14 hp)
  | succ f ih =>
    intro p t X v x3 x4 x5 x6 x7 x8 x9 ht hpl hr hd hF hf h14 hp
    have hlen := hd.1
    refine z_C.go 3 rfl ?_
    by_cases h3 : t = 3
    · subst h3
      have ho : o = some (X, p) := by
        rcases hr with ⟨-, h⟩ | ⟨h, -⟩ | ⟨h, -⟩
        · exact h
        · omega
        · omega
      refine z_C.if (fun _ => ?_) (fun h9 => absurd (by decide) h9)
      refine z_C.go 1 rfl ?_
      exact z_C.ret rfl rfl (K X p ho v hF hf h14 hp)
    · refine z_C.if (fun h => absurd ((iN_le (a := 3) (by decide) (by omega)).mp h) (by omega)) (fun _ => ?_)
      refine z_C.go 1 rfl ?_
      have hbad : ¬ (p < len ∧ t + D p + 1 ≤ 3) → o = none := fun hn9 => by
        rcases hr with ⟨h, -⟩ | ⟨-, -, h⟩ | ⟨-, h, -⟩
        · omega
        · exact h
        · exact absurd h hn9
      by_cases hpl2 : p < len
      · have hD := (hd.2.2 p hpl2).2
        refine z_C.call rfl rfl (m_peek (p := p) (Q := fun v' r => v' = v ∧ r = some (zI (iN (D p)))) hd h14 (by omega) (fun _ => ⟨rfl, rfl⟩) (fun h => absurd hpl2 h)) (fun v1 r h => ?_)
        obtain ⟨rfl, rfl⟩ := h
        have eb : iN (D p) + 1 = iN (D p + 1) := iN_add _ 1
        have ea : iN p + 1 = iN (p + 1) := iN_add p 1
        refine z_C.go 2 rfl ?_
        rw [eb]
        refine z_C.go 3 rfl ?_
        refine z_C.ld rfl rfl h14 ?_
        refine z_C.go 6 rfl ?_
        rw [ea]
        have hF1 : gM V0 (z_si v1 0 0 14 (iN (p + 1))) := hF.tr gM.si
        refine z_C.if (fun h9 => absurd ((iN_lt (b := 1) (by omega) (by decide)).mp h9) (by omega)) (fun _ => ?_)
        refine z_C.go 5 rfl ?_
        refine z_C.if (fun h9 => ?_) (fun h9 => ?_)
        · have h9 : iN t + iN (D p + 1) ≤ 3 := h9
          rw [iN_add] at h9
          have h9 := (iN_le (b := 3) (by omega) (by decide)).mp h9
          obtain ⟨o1, hr1, hr2⟩ : ∃ o1, rowR D len 4 (p + 1) 0 (fun _ => 0) o1 ∧ ((o1 = none ∧ o = none) ∨ ∃ R p1, o1 = some (R, p1) ∧ rasR D len f p1 (t + D p + 1) (putR X t (t + D p + 1) R) o) := by
            rcases hr with ⟨h, -⟩ | ⟨-, h, -⟩ | ⟨-, -, h⟩
            · omega
            · exact absurd ⟨hpl2, h9⟩ h
            · exact h
          refine z_C.go 2 rfl ?_
          refine m_row_lp (n := n) (t := t) (k := D p + 1) (Y := Y) (X := X) (o := o1) (V0 := V0) (W := W) hT h9 (fun R p9 ho1 v2 x5 x6 x7 x8 x9 hF2 hf2 h2 hp2 => ?_) (fun ho1 v2 hF2 => K0 ?_ v2 hF2) 4 (p + 1) 0 (fun _ => 0) _ _ _ _ _ _ (by decide) (by omega) hr1 (hd.q (gM.si (v := v1)).q) hF1 hf rfl (fun h6 => ⟨(hp h6).1, (hp h6).2.1, fun q _ _ h => by omega⟩)
          · have hr3 : rasR D len f p9 (t + D p + 1) (putR X t (t + D p + 1) R) o := by
              rcases hr2 with ⟨h, -⟩ | ⟨R', p', h, h9⟩
              · rw [h] at ho1; cases ho1
              · rw [h] at ho1
                cases ho1
                exact h9
            have hp9 : p9 ≤ len := by
              rw [ho1] at hr1
              exact (rowR_ge _ _ _ _ _ _ hr1).2 (by decide) (by omega)
            refine z_C.go 5 rfl ?_
            have hd2 : mD len D v2 := ⟨hd.1, by rw [hF2.2 0 0 2 (by omega) (by omega), ← hF.2 0 0 2 (by omega) (by omega)]; exact hd.2.1, fun q hq => by rw [hF2.2 1 0 q (by omega) (by omega), ← hF.2 1 0 q (by omega) (by omega)]; exact hd.2.2 q hq⟩
            have k9 := ih p9 (t + D p + 1) (putR X t (t + D p + 1) R) v2 (some (zI (iN (D p + 1)))) (some (zI 4)) x5 x6 x7 x8 x9 h9 hp9 hr3 hd2 hF2 hf2 h2 (fun h6 => by
              obtain ⟨a1, a2, a3⟩ := hp2 h6
              refine ⟨a1, fun q hq => ?_, fun q _ _ h => by omega⟩
              unfold putR
              by_cases e : 4 * t ≤ q
              · rw [if_pos (by omega)]
                exact a3 q e (by omega) (by omega)
              · rw [if_neg (by omega)]
                exact a2 q (by omega))
            rw [show t + D p + 1 = t + (D p + 1) by omega, ← iN_add t (D p + 1)] at k9
            exact k9
          · rcases hr2 with ⟨-, h⟩ | ⟨R', p', h, -⟩
            · exact h
            · rw [h] at ho1; cases ho1
        · refine z_C.go 1 rfl ?_
          refine z_C.ret rfl rfl (K0 (hbad (fun hk => h9 ?_)) _ hF1)
          show iN t + iN (D p + 1) ≤ 3
          rw [iN_add]
          exact (iN_le (b := 3) (by omega) (by decide)).mpr hk.2
      · refine z_C.call rfl rfl (m_peek (p := p) (Q := fun v' r => v' = v ∧ r = some (zI (-1))) hd h14 (by omega) (fun h => absurd h hpl2) (fun _ => ⟨rfl, rfl⟩)) (fun v1 r h => ?_)
        obtain ⟨rfl, rfl⟩ := h
        refine z_C.go 12 rfl ?_
        refine z_C.if (fun _ => ?_) (fun h9 => absurd (by decide) h9)
        refine z_C.go 1 rfl ?_
        exact z_C.ret rfl rfl (K0 (hbad (fun h => hpl2 h.1)) _ (hF.tr gM.si))
theorem m_ras {n p : Nat} {to : Int32} {Y : Nat → Nat} {o : Option ((Nat → Nat) × Nat)} {v : z_W} (hT : (n < 6 ∧ to = iN (1800 + 12 * n)) ∨ (6 ≤ n ∧ to = -1)) (hr : rasR D len 3 p 0 (fun _ => 0) o) (hd : mD len D v) (hp : v.1 0 0 14 = iN p) (hpl : p ≤ len) (hY : n < 6 → ∀ q, q < 12 * n → v.1 3 0 (1800 + q) = iN (Y q))
    (K : ∀ X p, o = some (X, p) → ∀ v', gM v v' → fM n v v' → v'.1 0 0 14 = iN p → pM n Y X 3 0 0 (fun _ => 0) v' → Q v' (some (zI 1))) (K0 : o = none → ∀ v', gM v v' → Q v' (some (zI 0))) :
    mRun kX_raster (0, [some (zR 0 0), some (zI to), none, none, none, none, none, none, none, none], [], v) Q := by
  refine z_C.go 2 rfl ?_
  exact m_ras_lp (V0 := v) (W := v) hT K K0 3 p 0 _ v none none none none none none none (by decide) hpl hr hd (gM.rf v) (fun _ _ => rfl) hp (fun h6 => ⟨hY h6, fun q h => by omega, fun q _ h => by omega⟩)
theorem m_pgs_lp {o : Option (Nat × (Nat → Nat))} {V0 : z_W} (K : ∀ n Y, o = some (n, Y) → ∀ v, gM V0 v → n ≤ 240 → (∀ q, q < 12 * n → q < 72 → v.1 3 0 (1800 + q) = iN (Y q)) → Q v (some (zI (iN n)))) (K0 : o = none → ∀ v, gM V0 v → Q v (some (zI 0))) :
    ∀ (f p n : Nat) (Y : Nat → Nat) (v : z_W) (x2 : Option z_V), f + n = 240 → pgsR D len f p n Y o → mD len D v → gM V0 v → v.1 0 0 14 = iN p → p ≤ len → (∀ q, q < 12 * n → q < 72 → v.1 3 0 (1800 + q) = iN (Y q)) →
    mRun kX_pages (10, [some (zR 0 0), some (zI (iN n)), x2], [], v) Q := by
  have fin : ∀ (p n : Nat) (Y : Nat → Nat) (v : z_W) (x2 : Option z_V), o = some (n, Y) → len ≤ p → p ≤ len → mD len D v → gM V0 v → n ≤ 240 → v.1 0 0 14 = iN p → (∀ q, q < 12 * n → q < 72 → v.1 3 0 (1800 + q) = iN (Y q)) → mRun kX_pages (10, [some (zR 0 0), some (zI (iN n)), x2], [], v) Q := fun p n Y v x2 ho hlp hpl hd hF hn h14 hY => by
    have hlen := hd.1
    refine z_C.go 1 rfl ?_
    refine z_C.ld rfl rfl h14 ?_
    refine z_C.go 1 rfl ?_
    refine z_C.ld rfl rfl hd.2.1 ?_
    refine z_C.go 1 rfl ?_
    refine z_C.if (fun _ => ?_) (fun h => absurd ((iN_le (by omega) (by omega)).mpr hlp) h)
    refine z_C.go 1 rfl ?_
    exact z_C.ret rfl rfl (K n Y ho v hF hn hY)
  intro f
  induction f with
  | zero =>
    intro p n Y v x2 hf hr hd hF h14 hpl hY
    exact fin p n Y v x2 hr.2 hr.1 hpl hd hF (by omega) h14 hY
  | succ f ih =>
    intro p n Y v x2 hf hr hd hF h14 hpl hY
    have hlen := hd.1
    by_cases hpl2 : p < len
    · have hD := (hd.2.2 p hpl2).2
      refine z_C.go 1 rfl ?_
      refine z_C.ld rfl rfl h14 ?_
      refine z_C.go 1 rfl ?_
      refine z_C.ld rfl rfl hd.2.1 ?_
      refine z_C.go 1 rfl ?_
      refine z_C.if (fun h => absurd ((iN_le (by omega) (by omega)).mp h) (by omega)) (fun _ => ?_)
      refine z_C.go 1 rfl ?_
      refine z_C.call rfl rfl (m_peek (p := p) (Q := fun v' r => v' = v ∧ r = some (zI (iN (D p)))) hd h14 (by omega) (fun _ => ⟨rfl, rfl⟩) (fun h => absurd hpl2 h)) (fun v1 r h => ?_)
      obtain ⟨rfl, rfl⟩ := h
      have ea : iN p + 1 = iN (p + 1) := iN_add p 1
      have hF1 : gM V0 (z_si v1 0 0 14 (iN (p + 1))) := hF.tr gM.si
      refine z_C.go 2 rfl ?_
      refine z_C.if (fun h => ?_) (fun h => ?_)
      · have h80 : D p = 80 := (iN_inj (b := 80) (by omega) (by decide)).mp h
        obtain ⟨o1, hr1, hr2⟩ : ∃ o1, rasR D len 3 (p + 1) 0 (fun _ => 0) o1 ∧ ((o1 = none ∧ o = none) ∨ ∃ X p1, o1 = some (X, p1) ∧ pgsR D len f p1 (n + 1) (putP Y n X) o) := by
          rcases hr with ⟨h, -⟩ | ⟨-, h, -⟩ | ⟨-, -, h⟩
          · omega
          · exact absurd h80 h
          · exact h
        have nxt : ∀ v2 : z_W, (∃ X p9, o1 = some (X, p9) ∧ gM (z_si v1 0 0 14 (iN (p + 1))) v2 ∧ fM n (z_si v1 0 0 14 (iN (p + 1))) v2 ∧ v2.1 0 0 14 = iN p9 ∧ pM n Y X 3 0 0 (fun _ => 0) v2) → mRun kX_pages (10, [some (zR 0 0), some (zI (iN n + 1)), some (zI 1)], [], v2) Q := fun v2 ⟨X, p9, ho1, g2, f2, a2, px2⟩ => by
          have hr3 : pgsR D len f p9 (n + 1) (putP Y n X) o := by
            rcases hr2 with ⟨h, -⟩ | ⟨R', p', h, h9⟩
            · rw [h] at ho1; cases ho1
            · rw [h] at ho1
              cases ho1
              exact h9
          have hp9 : p9 ≤ len := by
            rw [ho1] at hr1
            exact (rasR_ge _ _ _ _ _ _ hr1).2 (by omega)
          have k9 := ih p9 (n + 1) (putP Y n X) v2 (some (zI 1)) (by omega) hr3 ((hd.q (gM.si (v := v1)).q).q g2.q) (hF1.tr g2) a2 hp9 (fun q hq hq2 => by
            unfold putP
            by_cases h6 : n < 6
            · by_cases hq3 : 12 * n ≤ q
              · rw [if_pos ⟨h6, hq3, by omega⟩]
                have := (px2 h6).2.1 (q - 12 * n) (by omega)
                rw [show 1800 + 12 * n + (q - 12 * n) = 1800 + q by omega] at this
                exact this
              · rw [if_neg (fun h => hq3 h.2.1)]
                exact (px2 h6).1 q (by omega)
            · rw [if_neg (fun h => h6 h.1), f2 (by omega) _]
              exact hY q (by omega) hq2)
          rw [← iN_add n 1] at k9
          exact k9
        have nil : o1 = none → o = none := fun ho1 => by
          rcases hr2 with ⟨-, h⟩ | ⟨R', p', h, -⟩
          · exact h
          · rw [h] at ho1; cases ho1
        have run : ∀ to, ((n < 6 ∧ to = iN (1800 + 12 * n)) ∨ (6 ≤ n ∧ to = -1)) → mRun kX_raster (0, [some (zR 0 0), some (zI to), none, none, none, none, none, none, none, none], [], z_si v1 0 0 14 (iN (p + 1))) (fun v2 r => (r = some (zI 1) ∧ ∃ X p9, o1 = some (X, p9) ∧ gM (z_si v1 0 0 14 (iN (p + 1))) v2 ∧ fM n (z_si v1 0 0 14 (iN (p + 1))) v2 ∧ v2.1 0 0 14 = iN p9 ∧ pM n Y X 3 0 0 (fun _ => 0) v2) ∨ (r = some (zI 0) ∧ o1 = none ∧ gM (z_si v1 0 0 14 (iN (p + 1))) v2)) := fun to hT =>
          m_ras (n := n) (p := p + 1) (Y := Y) (o := o1) hT hr1 (hd.q (gM.si (v := v1)).q) rfl (by omega) (fun h6 q hq => hY q hq (by omega)) (fun X p9 ho v' a b c d => Or.inl ⟨rfl, X, p9, ho, a, b, c, d⟩) (fun ho v' a => Or.inr ⟨rfl, ho, a⟩)
        refine z_C.go 5 rfl ?_
        refine z_C.ld rfl rfl h14 ?_
        refine z_C.go 5 rfl ?_
        rw [ea]
        refine z_C.if (fun h => absurd h (by decide)) (fun _ => ?_)
        refine z_C.go 4 rfl ?_
        refine z_C.if (fun h => ?_) (fun h => ?_)
        · have h6 := (iN_le (a := 6) (by decide) (by omega)).mp h
          refine z_C.go 1 rfl ?_
          refine z_C.call rfl rfl (run (-1) (Or.inr ⟨h6, rfl⟩)) (fun v2 r h => ?_)
          rcases h with ⟨rfl, hx⟩ | ⟨rfl, ho1, g2⟩
          · refine z_C.go 1 rfl ?_
            refine z_C.if (fun h => absurd h (by decide)) (fun _ => ?_)
            refine z_C.go 2 rfl ?_
            exact nxt v2 hx
          · refine z_C.go 1 rfl ?_
            refine z_C.if (fun _ => ?_) (fun h => absurd (by decide) h)
            refine z_C.go 1 rfl ?_
            exact z_C.ret rfl rfl (K0 (nil ho1) v2 (hF1.tr g2))
        · have h6 : n < 6 := Nat.lt_of_not_le (fun h9 => h ((iN_le (a := 6) (by decide) (by omega)).mpr h9))
          have et : (1800 : Int32) + 12 * iN n = iN (1800 + 12 * n) := by
            rw [show (12 : Int32) * iN n = iN (12 * n) from iN_mul 12 n]
            exact iN_add 1800 (12 * n)
          refine z_C.go 6 rfl ?_
          rw [et]
          refine z_C.call rfl rfl (run _ (Or.inl ⟨h6, rfl⟩)) (fun v2 r h => ?_)
          rcases h with ⟨rfl, hx⟩ | ⟨rfl, ho1, g2⟩
          · refine z_C.go 1 rfl ?_
            refine z_C.if (fun h => absurd h (by decide)) (fun _ => ?_)
            refine z_C.go 2 rfl ?_
            exact nxt v2 hx
          · refine z_C.go 1 rfl ?_
            refine z_C.if (fun _ => ?_) (fun h => absurd (by decide) h)
            refine z_C.go 1 rfl ?_
            exact z_C.ret rfl rfl (K0 (nil ho1) v2 (hF1.tr g2))
      · have h80 : ¬ D p = 80 := fun h9 => h (by rw [h9]; rfl)
        have ho : o = none := by
          rcases hr with ⟨h, -⟩ | ⟨-, -, h⟩ | ⟨-, h, -⟩
          · omega
          · exact h
          · exact absurd h h80
        refine z_C.go 10 rfl ?_
        refine z_C.if (fun _ => ?_) (fun h => absurd (by decide) h)
        refine z_C.go 1 rfl ?_
        exact z_C.ret rfl rfl (K0 ho _ (hF.tr gM.si))
    · have ho : o = some (n, Y) := by
        rcases hr with ⟨-, h⟩ | ⟨h, -⟩ | ⟨h, -⟩
        · exact h
        · omega
        · omega
      exact fin p n Y v x2 ho (by omega) hpl hd hF (by omega) h14 hY
theorem m_pages {d : Nat} {o : Option (Nat × (Nat → Nat))} {v : z_W} (hr : pgsR D len 240 d 0 (fun _ => 0) o) (hd : mD len D v) (h20 : v.1 0 0 20 = iN d) (hdl : d ≤ len) (K : ∀ n Y, o = some (n, Y) → ∀ v', gM v v' → n ≤ 240 → (∀ q, q < 12 * n → q < 72 → v'.1 3 0 (1800 + q) = iN (Y q)) → Q v' (some (zI (iN n)))) (K0 : o = none → ∀ v', gM v v' → Q v' (some (zI 0))) :
    mRun kX_pages (0, [some (zR 0 0), none, none], [], v) Q := by
  refine z_C.go 6 rfl ?_
  exact m_pgs_lp (V0 := v) K K0 240 d 0 _ _ _ rfl hr (hd.q (gM.si (v := v)).q) gM.si h20 hdl (fun q hq => by omega)
end PM
