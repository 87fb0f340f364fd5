/-! a transaction of the reference that renews the log -/
theorem stM_cg {st : Option Nat} {v v' : z_W} (h : stM st v) (h1 : v'.1 0 0 11 = v.1 0 0 11) (h2 : v'.1 0 0 12 = v.1 0 0 12) : stM st v' := by
  cases st with
  | none => exact h1.trans h
  | some s => exact ⟨h1.trans h.1, h2.trans h.2.1, h.2.2⟩
theorem m_transactC {nb lg n : Nat} {A : Nat → Nat → Nat} {st : Option Nat} {v : z_W} {Q : z_W → Option z_V → Prop} (hnb : nb ≤ 10) (hlg : lg ≤ 40) (hl : ¬ lg + nb ≤ 40) (h1 : v.1 0 0 9 = iN lg) (hc : mLv n A v) (hlv : nLive A n ≤ 90) (hs : stM st v) (ho : ¬ (aW (nLive A n + 1) st).1 = true)
    (hf : ∀ v1, mT (aT nb lg (nLive A n) st) n A v v1 → Q (gdn n v1) (some (zI 0))) :
    mRun kX_transact (0, [some (zR 0 0), some (zI (iN nb)), none], [], v) Q := by
  rw [aT_c hl ho] at hf
  refine z_C.go 6 rfl ?_
  refine z_C.if (fun h => ?_) (fun _ => ?_)
  · have h : v.1 0 0 9 + iN nb ≤ 40 := h
    rw [h1, iN_add] at h
    exact absurd ((iN_le (b := 40) (by omega) (by decide)).mp h) hl
  refine z_C.go 1 rfl ?_
  refine z_C.call rfl rfl (m_blocks (Q := fun w' r => w' = v ∧ r = some (zI (iN (nLive A n)))) hc ⟨rfl, rfl⟩) (fun w' r h => ?_)
  obtain ⟨rfl, rfl⟩ := h
  refine z_C.go 5 rfl ?_
  have e1 : iN (nLive A n) + 1 = iN (nLive A n + 1) := iN_add _ 1
  have W9 := m_write (d := nLive A n + 1) (m := n) (v := w') (st := st) (Q := fun v2 r => r = some (zI 0) ∧ ∃ v1, v2 = gdn n v1 ∧ mFr w' v1 ∧ v1.1 0 0 8 = w'.1 0 0 8 + iN (aW (nLive A n + 1) st).2.1) (by omega) hc.1.1 hc.1.2 hs (fun v1 _ _ h9 => absurd h9 ho) (fun v1 g1 g2 _ => ⟨rfl, v1, rfl, g1, g2⟩)
  rw [← e1] at W9
  refine z_C.call rfl rfl W9 (fun v2 r h => ?_)
  obtain ⟨rfl, v1, rfl, g1, g2⟩ := h
  refine z_C.go 2 rfl ?_
  exact z_C.ret rfl rfl (hf v1 ⟨g1.2, fun g i k _ _ hg => g1.wide g i k hg, g2, (g1.1 0 0 9 (by decide)).trans h1, (fun h => by cases h), (fun h => by cases h), fun _ => ⟨g1.1 0 0 4 (by decide), fun g i k hg => g1.1 g i k (fun h => by omega)⟩⟩)
