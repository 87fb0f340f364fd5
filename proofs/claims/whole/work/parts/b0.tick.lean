/-! tick -/
theorem Core.cLv {len lg n nx : Nat} {A : Nat → Nat → Nat} {w v : z_W} (h : Core len lg n nx A w v) (hw : wJobs n nx lg A) : cLv n A w := by
  obtain ⟨-, -, -, -, -, ⟨j1, j2, j3⟩, -, -, j7, -⟩ := h
  exact ⟨⟨j1, j2⟩, fun k hk => ⟨(j7 k hk 2 (by decide) (by decide)).1, (j7 k hk 8 (by decide) (by decide)).1, (hw.1 k hk).2.1, (hw.1 k hk).2.2.2.2.2.2.2.2.2⟩⟩
theorem Core.mLv {len lg n nx : Nat} {A : Nat → Nat → Nat} {w v : z_W} (h : Core len lg n nx A w v) (hw : wJobs n nx lg A) : mLv n A v := by
  obtain ⟨-, -, -, -, -, ⟨j1, j2, j3⟩, -, -, j7, -⟩ := h
  exact ⟨⟨by omega, j3⟩, fun k hk => ⟨(j7 k hk 2 (by decide) (by decide)).2, (j7 k hk 8 (by decide) (by decide)).2, (hw.1 k hk).2.1, (hw.1 k hk).2.2.2.2.2.2.2.2.2⟩⟩
theorem aJob.sml {a : Nat → Nat} {nx : Nat} (h : aJob a nx) (hx : nx ≤ 1000) : sml a := by
  obtain ⟨h1, h2, -, h4, -⟩ := h
  exact ⟨by omega, by omega, by omega⟩
theorem Core.cRows {len lg n nx : Nat} {A : Nat → Nat → Nat} {w v : z_W} (h : Core len lg n nx A w v) (hw : wJobs n nx lg A) (hx : nx ≤ 1000) : cRows n A w := by
  obtain ⟨-, -, -, -, -, ⟨j1, j2, j3⟩, -, -, j7, -⟩ := h
  exact ⟨⟨j1, j2⟩, fun k hk => ⟨⟨(j7 k hk 1 (by decide) (by decide)).1, (j7 k hk 2 (by decide) (by decide)).1, (j7 k hk 4 (by decide) (by decide)).1⟩, (hw.1 k hk).sml hx⟩⟩
theorem Core.mRowsN {len lg n nx : Nat} {A : Nat → Nat → Nat} {w v : z_W} (h : Core len lg n nx A w v) (hw : wJobs n nx lg A) (hx : nx ≤ 1000) : mRowsN n A v := by
  obtain ⟨-, -, -, -, -, ⟨j1, j2, j3⟩, -, -, j7, -⟩ := h
  exact ⟨⟨by omega, j3⟩, fun k hk => ⟨⟨(j7 k hk 1 (by decide) (by decide)).2, (j7 k hk 2 (by decide) (by decide)).2, (j7 k hk 4 (by decide) (by decide)).2⟩, (hw.1 k hk).sml hx⟩⟩
/-- the pixels of the k-th job -/
def pixP (A : Nat → Nat → Nat) (w : z_W) (k q : Nat) : Int32 := if q < 12 * A k 8 then w.1 10 (w.2.2 13 0 k) q else 0
theorem Core.cK {len lg n nx k : Nat} {A : Nat → Nat → Nat} {w v : z_W} (h : Core len lg n nx A w v) (hk : k < n) : cK (w.2.2 13 0 k) (A k) (pixP A w k) w := by
  obtain ⟨-, -, -, -, -, -, -, -, j7, -, -⟩ := h
  exact ⟨fun f g1 g2 => (j7 k hk f g1 g2).1, fun q hq => (if_pos hq).symm⟩
theorem Core.mK {len lg n nx k : Nat} {A : Nat → Nat → Nat} {w v : z_W} (h : Core len lg n nx A w v) (hk : k < n) : mK k (A k) (pixP A w k) v := by
  obtain ⟨-, -, -, -, -, ⟨j1, -⟩, -, -, j7, -, j9⟩ := h
  refine ⟨by omega, fun f g1 g2 => (j7 k hk f g1 g2).2, fun q hq => ?_⟩
  obtain ⟨b, -, b2, b3⟩ := j9 k hk q hq
  rw [b3, ← b2]
  exact (if_pos hq).symm
theorem Core.pix {len lg n nx k : Nat} {A : Nat → Nat → Nat} {w v : z_W} (h : Core len lg n nx A w v) (hk : k < n) : ∀ q, pixP A w k q &&& 255 = pixP A w k q := by
  obtain ⟨-, -, -, -, -, -, -, -, -, -, j9⟩ := h
  intro q
  unfold pixP
  by_cases hq : q < 12 * A k 8
  · obtain ⟨b, b1, b2, -⟩ := j9 k hk q hq
    rw [if_pos hq, b2]
    exact byte_n b1
  · rw [if_neg hq]
    decide
/-- both answer alike and keep the relation -/
def FinT (j : Nat) (w : z_W) (r : Option z_V) (v : z_W) (r' : Option z_V) : Prop := ∃ i, r = some (zI i) ∧ r' = some (zI i) ∧ v.1 0 0 0 = 0 ∧ Rel j w v
/-- the number finds its job behind a transaction -/
theorem T_find {t : Bool × Nat × Option Nat × Nat × Bool} {n k l : Nat} {A : Nat → Nat → Nat} {v v' : z_W} (h4 : v.1 0 0 4 = iN n) (hr : ∀ j, j < n → v.1 2 0 (10 * j) = iN (A j 1)) (hmo : ∀ k l, k < l → l < n → A k 1 < A l 1) (hb : ∀ j, j < n → A j 1 < 2147483648) (hi : tIx t n A k l) (hm : mT t n A v v') : v'.1 0 0 4 = iN (tN t n A) ∧ fndF (fun j => v'.1 2 0 (10 * j)) (iN (A k 1)) (tN t n A) 0 = some l := by
  obtain ⟨-, -, -, -, -, m6, m7⟩ := hm
  have key : v'.1 0 0 4 = iN (tN t n A) ∧ ∀ j, j < tN t n A → v'.1 2 0 (10 * j) = iN (tA t n A j 1) := by
    unfold tN tA
    by_cases hn : t.2.2.2.2 = true
    · rw [if_pos hn, if_pos hn]
      obtain ⟨q1, q2⟩ := m6 hn
      refine ⟨q1, fun j hj => ?_⟩
      exact ((q2 j hj).1 0 (by decide)).trans (hr _ (fgt_in A n j hj).1)
    · rw [if_neg hn, if_neg hn]
      obtain ⟨q1, q2⟩ := m7 hn
      exact ⟨q1.trans h4, fun j hj => (q2 2 0 _ (Or.inl rfl)).trans (hr j hj)⟩
  refine ⟨key.1, ?_⟩
  rw [fndF_congr (num := fun j => v'.1 2 0 (10 * j)) (num' := fun j => iN (tA t n A j 1)) (tN t n A) 0 (fun j _ hj => key.2 j (by omega)), ← hi.f 1]
  exact fnd_at (tA_mono hmo) (tA_all (P := fun a => a 1 < 2147483648) hb) hi.1 (tN t n A) 0 (by omega) (Nat.zero_le _)
theorem nSt_9 : nSt 9 := by unfold nSt; decide
theorem nSt_5 : nSt 5 := by unfold nSt; decide
theorem tickB {j len lg n nx k : Nat} {A : Nat → Nat → Nat} {w v : z_W} (h : Core len lg n nx A w v) (hv : vJobs n nx lg 1 A) (hk : k < n) (h5 : A k 2 = 5) (hx1 : 1 ≤ nx) (hx2 : nx ≤ j + 1) (hx3 : j ≤ 512) (h0 : v.1 0 0 0 = 0) :
    ∃ Pc Pm : z_W → Option z_V → Prop, cRun kP_tick (47, [some (zR 0 0), some (zR 9 (w.2.2 13 0 k))], [], w) Pc ∧ mRun kX_tick (93, [some (zR 0 0), some (zI (iN k)), some (zI (iN (A k 1)))], [], v) Pm ∧ ∀ w' r v' r', Pc w' r → Pm v' r' → FinT j w' r v' r' := by
  have hw := hv.w
  have hj := hw.1 k hk
  have ht := ((hv.2.2.2.1 k hk).2.2 h5 rfl)
  obtain ⟨st, s1, s2⟩ := h.2.1.st
  have hw2 : wJobs n nx lg (aSet A k 9 (A k 9 + 1)) := hw.set9 h5 (by omega)
  have hlg := h.2.1.2.1.1
  have hlv := hw2.2.2.2.2.2
  have j6 := h.2.2.2.2.2.2.2.1
  have sent := h.2.2.2.2.2.2.2.2.2.1 k hk
  have h5' : aSet A k 9 (A k 9 + 1) k 2 = 5 := by rw [aSet_f (by decide), h5]
  have e1A : aSet A k 9 (A k 9 + 1) k 1 = A k 1 := aSet_f (by decide)
  have hSb := sheetL_byte (s := A k 9 % nC (A k)) hj (h.pix hk)
  have hSl := sheetL_len (P := pixP A w k) (s := A k 9 % nC (A k)) hj
  have core2 : ∀ w2 v2, sF (w.2.2 13 0 k) w w2 → bOut 2 (sheetL (A k) (pixP A w k) (A k 9 % nC (A k))) w2 → sM v v2 → mOut 6 25 (sheetL (A k) (pixP A w k) (A k 9 % nC (A k))) v2 → Core len lg n nx (aSet A k 9 (A k 9 + 1)) w2 (z_si v2 2 0 (10 * k + 8) (iN (A k 9 + 1))) := fun w2 v2 a b c d => h.sent hk rfl a b c d hSb (by omega)
  have num2 : ∀ v2, sM v v2 → (z_si v2 2 0 (10 * k + 8) (iN (A k 9 + 1))).1 0 0 4 = iN n ∧ ∀ q, q < n → (z_si v2 2 0 (10 * k + 8) (iN (A k 9 + 1))).1 2 0 (10 * q) = iN (aSet A k 9 (A k 9 + 1) q 1) := fun v2 g => ⟨(g.2.1 0 0 4 (by decide) (by decide) (by decide)).trans h.2.2.2.2.2.1.2.2, fun q hq => by
    rw [aSet_f (by decide)]
    exact (if_neg (fun h => by omega)).trans ((g.2.1 2 0 _ (by decide) (by decide) (by omega)).trans (h.2.2.2.2.2.2.2.2.1 q hq 1 (by decide) (by decide)).2)⟩
  have hb2 : ∀ q, q < n → aSet A k 9 (A k 9 + 1) q 1 < 2147483648 := fun q hq => ((hw2.1 q hq).sml (by omega)).1
  have hPc := fun (Q : z_W → Option z_V → Prop) => c_tickB (lg := lg) (st := st) (Q := Q) hj (h.cK hk) sent.1 ht hlg h.2.1.2.1.2.1 (h.cLv hw) (by omega) j6.1 j6.2 s1
  have tv : v.1 2 0 (10 * k + 8) = iN (A k 9) := by rw [sent.2, if_pos (Or.inl rfl)]
  have hPm := fun (l : Nat) (Q : z_W → Option z_V → Prop) => m_tickB (l := l) (lg := lg) (st := st) (Q := Q) hj (h.mK hk) tv ht hlg h.2.1.2.1.2.2 (h.mLv hw) (by omega) s2
  have hT1 := aT_log (nb := 1) (st := st) hw2.2.2.2.2.1 hlg (by omega)
  have hW3 := hw2.T (nb := 1) (st := st) hlg (by omega)
  have core3 := fun (w2 w3 v2 v3 : z_W) (c : Core len lg n nx (aSet A k 9 (A k 9 + 1)) w2 (z_si v2 2 0 (10 * k + 8) (iN (A k 9 + 1)))) => Core.T (t := aT 1 lg (nLive (aSet A k 9 (A k 9 + 1)) n) st) (w' := w3) (v' := v3) c (fun q hq => (hw2.1 q hq).2.2.2.2.2.2.2.2.2)
  have coreD := fun (w2 w3 v2 v3 : z_W) (c : Core len lg n nx (aSet A k 9 (A k 9 + 1)) w2 (z_si v2 2 0 (10 * k + 8) (iN (A k 9 + 1)))) => Core.D (nb := 1) (st := st) (w' := w3) (v' := v3) (j := j) c hw2 hlg (by omega)
  have hn20 := h.2.2.2.2.2.1.1
  obtain ⟨l, hl⟩ := tIx_ex (aT 1 lg (nLive (aSet A k 9 (A k 9 + 1)) n) st) (A := aSet A k 9 (A k 9 + 1)) hk (by rw [h5']; decide)
  have hfd := fun v2 v1 (a : sM v v2) (b : mT (aT 1 lg (nLive (aSet A k 9 (A k 9 + 1)) n) st) n (aSet A k 9 (A k 9 + 1)) (z_si v2 2 0 (10 * k + 8) (iN (A k 9 + 1))) v1) => T_find (num2 v2 a).1 (num2 v2 a).2 hw2.2.1 hb2 hl b
  rw [e1A] at hfd
  generalize hA2 : aSet A k 9 (A k 9 + 1) = A2 at *
  generalize hT : aT 1 lg (nLive A2 n) st = T at *
  have hl24 : l ≤ 24 := by
    have a1 := hl.1
    have a2 := tN_le T n A2
    omega
  by_cases hT0 : A k 9 + 1 < nTot (A k)
  · refine ⟨fun w2 r => r = some (zI (iN (A k 1))) ∧ sF (w.2.2 13 0 k) w w2 ∧ bOut 2 (sheetL (A k) (pixP A w k) (A k 9 % nC (A k))) w2, fun v' r => r = some (zI (iN (A k 1))) ∧ ∃ v2, v' = z_si v2 2 0 (10 * k + 8) (iN (A k 9 + 1)) ∧ sM v v2 ∧ mOut 6 25 (sheetL (A k) (pixP A w k) (A k 9 % nC (A k))) v2,
      hPc _ (fun _ w2 a b => ⟨rfl, a, b⟩) (fun h9 => absurd hT0 h9) (fun h9 => absurd hT0 h9), hPm l _ hl24 hfd (fun _ v2 a b => ⟨rfl, v2, rfl, a, b⟩) (fun h9 => absurd hT0 h9) (fun h9 => absurd hT0 h9), fun w' r v' r' g1 g2 => ?_⟩
    obtain ⟨rfl, a1, a2⟩ := g1
    obtain ⟨rfl, v2, rfl, b1, b2⟩ := g2
    obtain ⟨c1, c2, c3, c4, c5, c6⟩ := core2 w' v2 a1 a2 b1 b2
    refine ⟨_, rfl, rfl, (b1.2.1 0 0 0 (by decide) (by decide) (by decide)).trans h0, len, lg, 1, n, nx, _, c1, c2, c3, c4, c5, c6, hw2.v (fun q hq hq5 _ => ?_), hx1, hx2, hx3⟩
    rw [← hA2] at hq5 ⊢
    rw [nTot_9]
    rw [aSet_f (by decide)] at hq5
    have e := hw.2.2.1 q k hq hk hq5 h5
    subst e
    rw [aSet_s]
    exact hT0
  · by_cases hT1' : T.1 = true
    · refine ⟨fun w' r => r = some (zI (iN (A k 1))) ∧ ∃ w2 w3, w' = z_si w3 9 (w.2.2 13 0 k) 2 9 ∧ sF (w.2.2 13 0 k) w w2 ∧ bOut 2 (sheetL (A k) (pixP A w k) (A k 9 % nC (A k))) w2 ∧ cT T n A2 w2 w3, fun v' r => r = some (zI (iN (A k 1))) ∧ ∃ v2 v3, v' = z_si v3 2 0 (10 * l + 1) 9 ∧ sM v v2 ∧ mOut 6 25 (sheetL (A k) (pixP A w k) (A k 9 % nC (A k))) v2 ∧ mT T n A2 (z_si v2 2 0 (10 * k + 8) (iN (A k 9 + 1))) v3,
        hPc _ (fun h9 => absurd h9 hT0) (fun _ _ w2 w3 a b c => ⟨rfl, w2, w3, rfl, a, b, c⟩) (fun _ h9 => absurd hT1' h9), hPm l _ hl24 hfd (fun h9 => absurd h9 hT0) (fun _ _ v2 v3 a b c => ⟨rfl, v2, v3, rfl, a, b, c⟩) (fun _ h9 => absurd hT1' h9), fun w' r v' r' g1 g2 => ?_⟩
      obtain ⟨rfl, w2, w3, rfl, a1, a2, a3⟩ := g1
      obtain ⟨rfl, v2, v3, rfl, b1, b2, b3⟩ := g2
      have c3 := core3 w2 w3 v2 v3 (core2 w2 v2 a1 a2 b1 b2) a3 b3 hT1' hT1.1
      have c4 := c3.state (k := l) (s := 9) hl.1
      have er : w3.2.2 13 0 l = w.2.2 13 0 k := by rw [hl.ref a3, a1.1]
      rw [er] at c4
      have hE : ¬ (tA T n A2 l 2 = 7 ∨ tA T n A2 l 2 = 9) := by rw [hl.f 2, h5']; decide
      have hW4 := hW3.set2 (k := l) (s := 9) nSt_9 hE (fun h9 => by omega) (fun h9 => by omega)
      obtain ⟨d1, d2, d3, d4, d5, d6⟩ := c4
      refine ⟨_, rfl, rfl, ?_, len, _, 1, _, nx, _, d1, d2, d3, d4, d5, d6, hW4.v (fun q hq hq5 _ => ?_), hx1, hx2, hx3⟩
      · exact (b3.fr 0 0 0 (by decide) (by decide) (by decide)).trans ((b1.2.1 0 0 0 (by decide) (by decide) (by decide)).trans h0)
      · by_cases e : q = l
        · rw [e, aSet_s] at hq5
          omega
        · rw [aSet_k e] at hq5
          exact absurd (hW3.2.2.1 q l hq hl.1 hq5 (by rw [hl.f 2, h5'])) e
    · refine ⟨fun w' r => r = some (zI (-1)) ∧ ∃ w2 w3, w' = bClr 1 w3 ∧ sF (w.2.2 13 0 k) w w2 ∧ bOut 2 (sheetL (A k) (pixP A w k) (A k 9 % nC (A k))) w2 ∧ cT T n A2 w2 w3, fun v' r => r = some (zI (-1)) ∧ ∃ v2 v3, v' = gdn (tN T n A2) v3 ∧ sM v v2 ∧ mOut 6 25 (sheetL (A k) (pixP A w k) (A k 9 % nC (A k))) v2 ∧ mT T n A2 (z_si v2 2 0 (10 * k + 8) (iN (A k 9 + 1))) v3,
        hPc _ (fun h9 => absurd h9 hT0) (fun _ h9 => absurd h9 hT1') (fun _ _ w2 w3 a b c => ⟨rfl, w2, w3, rfl, a, b, c⟩), hPm l _ hl24 hfd (fun h9 => absurd h9 hT0) (fun _ h9 => absurd h9 hT1') (fun _ _ v2 v3 a b c => ⟨rfl, v2, v3, rfl, a, b, c⟩), fun w' r v' r' g1 g2 => ?_⟩
      obtain ⟨rfl, w2, w3, rfl, a1, a2, a3⟩ := g1
      obtain ⟨rfl, v2, v3, rfl, b1, b2, b3⟩ := g2
      have c3 := coreD w2 w3 v2 v3 (core2 w2 v2 a1 a2 b1 b2)
      refine ⟨_, rfl, rfl, ?_, c3 a3 b3 hT1' hx1 hx2 hx3⟩
      rw [gdn_0]
      exact (b3.fr 0 0 0 (by decide) (by decide) (by decide)).trans ((b1.2.1 0 0 0 (by decide) (by decide) (by decide)).trans h0)
