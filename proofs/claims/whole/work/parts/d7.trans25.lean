/-! a transaction that is done leaves alone what was read -/
def r25 (v v1 : z_W) : Prop := (∀ f, f < 10 → v1.1 2 0 (250 + f) = v.1 2 0 (250 + f)) ∧ ∀ q, q < 72 → v1.1 3 0 (1800 + q) = v.1 3 0 (1800 + q)
theorem m_transactBW {nb lg n : Nat} {A : Nat → Nat → Nat} {st : Option Nat} {v : z_W} {Q : z_W → Option z_V → Prop} (hnb : nb ≤ 10) (hlg : lg ≤ 40) (hl : ¬ lg + nb ≤ 40) (h1 : v.1 0 0 9 = iN lg) (hc : mLv n A v) (hlv : nLive A n ≤ 90) (hs : stM st v) (ho : (aW (nLive A n + 1) st).1 = true) (ho2 : (aW nb (aW (nLive A n + 1) st).2.2).1 = true)
    (hq : ∀ v1, mT (aT nb lg (nLive A n) st) n A v v1 → r25 v v1 → Q v1 (some (zI 1))) :
    mRun kX_transact (0, [some (zR 0 0), some (zI (iN nb)), none], [], v) Q := by
  rw [aT_b hl ho] at hq
  refine z_C.go 6 rfl ?_
  refine z_C.if (fun h => ?_) (fun _ => ?_)
  · have h : v.1 0 0 9 + iN nb ≤ 40 := h
    rw [h1, iN_add] at h
    exact absurd ((iN_le (b := 40) (by omega) (by decide)).mp h) hl
  refine z_C.go 1 rfl ?_
  refine z_C.call rfl rfl (m_blocks (Q := fun w' r => w' = v ∧ r = some (zI (iN (nLive A n)))) hc ⟨rfl, rfl⟩) (fun w' r h => ?_)
  obtain ⟨rfl, rfl⟩ := h
  refine z_C.go 5 rfl ?_
  have e1 : iN (nLive A n) + 1 = iN (nLive A n + 1) := iN_add _ 1
  have W9 := m_write (d := nLive A n + 1) (m := n) (v := w') (st := st) (Q := fun v1 r => r = some (zI 1) ∧ mFr w' v1 ∧ v1.1 0 0 8 = w'.1 0 0 8 + iN (aW (nLive A n + 1) st).2.1 ∧ stM (aW (nLive A n + 1) st).2.2 v1) (by omega) hc.1.1 hc.1.2 hs (fun v1 g1 g2 _ g4 => ⟨rfl, g1, g2, g4⟩) (fun v1 _ _ h9 => absurd ho h9)
  rw [← e1] at W9
  generalize (aW (nLive A n + 1) st).2.2 = st1 at W9 hq ho2
  generalize (aW (nLive A n + 1) st).2.1 = wr at W9 hq
  refine z_C.call rfl rfl W9 (fun v1 r h => ?_)
  obtain ⟨rfl, g1, g2, g4⟩ := h
  refine z_C.go 5 rfl ?_
  have hc1 : mLv n A (z_si v1 0 0 9 (iN (nLive A n))) := by
    obtain ⟨⟨a1, a2⟩, a3⟩ := hc
    exact ⟨⟨a1, (g1.1 0 0 4 (by decide)).trans a2⟩, fun k hk => ⟨(g1.1 2 0 _ (fun h => absurd h.1 (by decide))).trans (a3 k hk).1, (g1.1 2 0 _ (fun h => absurd h.1 (by decide))).trans (a3 k hk).2.1, (a3 k hk).2.2⟩⟩
  refine z_C.call rfl rfl (m_forget (Q := fun v2 r => r = none ∧ ∃ v3, mfI A n (z_si v1 0 0 9 (iN (nLive A n))) v3 ∧ v2 = z_si v3 0 0 4 (iN (fgt A n).1)) hc1 (fun v3 h3 => ⟨rfl, v3, h3, rfl⟩)) (fun v2 r h => ?_)
  obtain ⟨rfl, v3, ⟨f1, f2, f3, f4⟩, rfl⟩ := h
  have z0 : ∀ k, v3.1 0 0 k = (z_si v1 0 0 9 (iN (nLive A n))).1 0 0 k := fun k => f2 0 0 k (by decide) (by decide)
  have q8 : (z_si v3 0 0 4 (iN (fgt A n).1)).1 0 0 8 = w'.1 0 0 8 + iN wr := (z0 8).trans g2
  have q9 : (z_si v3 0 0 4 (iN (fgt A n).1)).1 0 0 9 = iN (nLive A n) := z0 9
  have hs3 : stM st1 (z_si v3 0 0 4 (iN (fgt A n).1)) := stM_cg g4 (z0 11) (z0 12)
  have hm := fgt_le A n
  have hn24 := hc.1.1
  have fr : ∀ g i k, ¬ g = 2 → ¬ g = 3 → ¬ (g = 0 ∧ i = 0 ∧ (k = 4 ∨ k = 8 ∨ k = 9 ∨ k = 12)) → (z_si v3 0 0 4 (iN (fgt A n).1)).1 g i k = w'.1 g i k := fun g i k h2 h3 hg =>
    (if_neg (fun h => hg ⟨h.1, h.2.1, Or.inl h.2.2⟩)).trans ((f2 g i k h2 h3).trans ((if_neg (fun h => hg ⟨h.1, h.2.1, Or.inr (Or.inr (Or.inl h.2.2))⟩)).trans (g1.wide g i k hg)))
  have rows : mRows n A w' (z_si v3 0 0 4 (iN (fgt A n).1)) := fun k hk => ⟨fun f hf9 => ((f3 k hk).1 f hf9).trans (g1.1 2 0 _ (fun h => absurd h.1 (by decide))), fun q hq9 => ((f3 k hk).2 q hq9).trans (g1.1 3 0 _ (fun h => absurd h.1 (by decide)))⟩
  have er : (z_si v3 0 0 4 (iN (fgt A n).1)).2 = w'.2 := f1.trans g1.2
  refine z_C.go 2 rfl ?_
  refine z_C.call rfl rfl (m_write (d := nb) (m := (fgt A n).1) (v := z_si v3 0 0 4 (iN (fgt A n).1)) (st := st1) (Q := fun v4 r => r = some (zI 1) ∧ mFr (z_si v3 0 0 4 (iN (fgt A n).1)) v4 ∧ v4.1 0 0 8 = w'.1 0 0 8 + iN wr + iN (aW nb st1).2.1 ∧ stM (aW nb st1).2.2 v4) (by omega) (by omega) rfl hs3 (fun v4 k1 k2 _ k4 => ⟨rfl, k1, by rw [k2, q8], k4⟩) (fun v4 _ _ h9 => absurd ho2 h9)) (fun v4 r h => ?_)
  obtain ⟨rfl, k1, k2, k4⟩ := h
  have l1 : v4.1 0 0 9 = iN (nLive A n) := (k1.1 0 0 9 (by decide)).trans q9
  refine z_C.go 8 rfl ?_
  refine z_C.ret rfl rfl (hq _ ⟨k1.2.trans er, fun g i k h2 h3 hg => (if_neg (fun h => hg ⟨h.1, h.2.1, Or.inr (Or.inr (Or.inl h.2.2))⟩)).trans ((k1.wide g i k hg).trans (fr g i k h2 h3 hg)), ?_, ?_, fun _ => stM_cg k4 rfl rfl, fun _ => ⟨k1.1 0 0 4 (by decide), fun k hk => ⟨fun f hf9 => (k1.1 2 0 _ (fun h => absurd h.1 (by decide))).trans ((rows k hk).1 f hf9), fun q hq9 => (k1.1 3 0 _ (fun h => absurd h.1 (by decide))).trans ((rows k hk).2 q hq9)⟩⟩, fun h => absurd rfl h⟩ ⟨fun f hf9 => (k1.1 2 0 _ (fun h => absurd h.1 (by decide))).trans (((f4 25 (by omega)).1 f hf9).trans (g1.1 2 0 _ (fun h => absurd h.1 (by decide)))), fun q hq9 => (k1.1 3 0 _ (fun h => absurd h.1 (by decide))).trans (((f4 25 (by omega)).2 q hq9).trans (g1.1 3 0 _ (fun h => absurd h.1 (by decide))))⟩)
  · show v4.1 0 0 8 = w'.1 0 0 8 + iN (wr + (aW nb st1).2.1)
    rw [k2, Int32.add_assoc, iN_add]
  · show v4.1 0 0 9 + iN nb = iN (if (aW nb st1).1 = true then nLive A n + nb else nLive A n)
    rw [if_pos ho2, l1, iN_add]
theorem m_transactW {nb lg n : Nat} {A : Nat → Nat → Nat} {st : Option Nat} {v : z_W} {Q : z_W → Option z_V → Prop} (hnb : nb ≤ 10) (hlg : lg ≤ 40) (h1 : v.1 0 0 9 = iN lg) (hc : mLv n A v) (hlv : nLive A n ≤ 90) (hs : stM st v) (ht : (aT nb lg (nLive A n) st).1 = true)
    (hq : ∀ v1, mT (aT nb lg (nLive A n) st) n A v v1 → r25 v v1 → Q v1 (some (zI 1))) : mRun kX_transact (0, [some (zR 0 0), some (zI (iN nb)), none], [], v) Q := by
  by_cases hl : lg + nb ≤ 40
  · have e := aT_a (live := nLive A n) (st := st) hl
    refine m_transactA hnb hl h1 hc hs (fun v1 g1 g2 => hq v1 g2 ?_) (fun v1 g1 g2 => ?_)
    · have h9 := (g2.2.2.2.2.2.2 (by rw [e]; exact (fun h => by cases h))).2
      exact ⟨fun f _ => h9 2 0 _ (Or.inl rfl), fun q _ => h9 3 0 _ (Or.inr rfl)⟩
    · rw [e] at ht
      exact absurd ht g1
  · by_cases h2 : (aW (nLive A n + 1) st).1 = true
    · have e := aT_b (nb := nb) hl h2
      have ho2 : (aW nb (aW (nLive A n + 1) st).2.2).1 = true := by rw [e] at ht; exact ht
      exact m_transactBW hnb hlg hl h1 hc hlv hs h2 ho2 hq
    · have e := aT_c (nb := nb) hl h2
      rw [e] at ht
      cases ht
