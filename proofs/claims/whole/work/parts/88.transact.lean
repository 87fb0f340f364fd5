/-! a transaction of the reference -/
def mRows (n : Nat) (A : Nat → Nat → Nat) (v v' : z_W) : Prop := ∀ k, k < (fgt A n).1 → (∀ f, f < 10 → v'.1 2 0 (10 * k + f) = v.1 2 0 (10 * (fgt A n).2 k + f)) ∧ ∀ q, q < 72 → v'.1 3 0 (72 * k + q) = v.1 3 0 (72 * (fgt A n).2 k + q)
def mT (t : Bool × Nat × Option Nat × Nat × Bool) (n : Nat) (A : Nat → Nat → Nat) (v v1 : z_W) : Prop :=
  v1.2 = v.2 ∧ (∀ g i k, ¬ g = 2 → ¬ g = 3 → ¬ (g = 0 ∧ i = 0 ∧ (k = 4 ∨ k = 8 ∨ k = 9 ∨ k = 12)) → v1.1 g i k = v.1 g i k) ∧ v1.1 0 0 8 = v.1 0 0 8 + iN t.2.1 ∧ v1.1 0 0 9 = iN t.2.2.2.1 ∧ (t.1 = true → stM t.2.2.1 v1) ∧
  (t.2.2.2.2 = true → v1.1 0 0 4 = iN (fgt A n).1 ∧ mRows n A v v1) ∧ (¬ t.2.2.2.2 = true → v1.1 0 0 4 = v.1 0 0 4 ∧ ∀ g i k, g = 2 ∨ g = 3 → v1.1 g i k = v.1 g i k)
theorem mFr.wide {v v' : z_W} (h : mFr v v') : ∀ g i k, ¬ (g = 0 ∧ i = 0 ∧ (k = 4 ∨ k = 8 ∨ k = 9 ∨ k = 12)) → v'.1 g i k = v.1 g i k := fun g i k hg => h.1 g i k (fun h9 => hg ⟨h9.1, h9.2.1, by rcases h9.2.2 with e | e; exact Or.inr (Or.inl e); exact Or.inr (Or.inr (Or.inr e))⟩)
theorem m_transactA {nb lg n : Nat} {A : Nat → Nat → Nat} {st : Option Nat} {v : z_W} {Q : z_W → Option z_V → Prop} (hnb : nb ≤ 10) (hl : lg + nb ≤ 40) (h1 : v.1 0 0 9 = iN lg) (hc : mLv n A v) (hs : stM st v)
    (hq : ∀ v1, (aW nb st).1 = true → mT (aT nb lg (nLive A n) st) n A v v1 → Q v1 (some (zI 1))) (hf : ∀ v1, ¬ (aW nb st).1 = true → mT (aT nb lg (nLive A n) st) n A v v1 → Q (gdn n v1) (some (zI 0))) :
    mRun kX_transact (0, [some (zR 0 0), some (zI (iN nb)), none], [], v) Q := by
  rw [aT_a hl] at hq hf
  refine z_C.go 6 rfl ?_
  refine z_C.if (fun _ => ?_) (fun h => ?_)
  · refine z_C.go 2 rfl ?_
    by_cases ho : (aW nb st).1 = true
    · refine z_C.call rfl rfl (m_write (d := nb) (m := n) (v := v) (st := st) (Q := fun v1 r => r = some (zI 1) ∧ mFr v v1 ∧ v1.1 0 0 8 = v.1 0 0 8 + iN (aW nb st).2.1 ∧ stM (aW nb st).2.2 v1) (by omega) hc.1.1 hc.1.2 hs (fun v1 g1 g2 _ g4 => ⟨rfl, g1, g2, g4⟩) (fun v1 _ _ h9 => absurd ho h9)) (fun v1 r h => ?_)
      obtain ⟨rfl, g1, g2, g4⟩ := h
      have l1 : v1.1 0 0 9 = iN lg := (g1.1 0 0 9 (by decide)).trans h1
      refine z_C.go 8 rfl ?_
      refine z_C.ret rfl rfl (hq _ ho ⟨g1.2, fun g i k _ _ hg => (if_neg (fun h => hg ⟨h.1, h.2.1, Or.inr (Or.inr (Or.inl h.2.2))⟩)).trans (g1.wide g i k hg), g2, ?_, fun _ => ?_, (fun h => by cases h), fun _ => ⟨g1.1 0 0 4 (by decide), fun g i k hg => (if_neg (fun h => by omega)).trans (g1.1 g i k (fun h => by omega))⟩⟩)
      · show v1.1 0 0 9 + iN nb = iN (if (aW nb st).1 = true then lg + nb else lg)
        rw [if_pos ho, l1, iN_add]
      · show stM (aW nb st).2.2 _
        generalize (aW nb st).2.2 = st2 at g4 ⊢
        cases st2 with
        | none => exact g4
        | some s => exact g4
    · refine z_C.call rfl rfl (m_write (d := nb) (m := n) (v := v) (st := st) (Q := fun v2 r => r = some (zI 0) ∧ ∃ v1, v2 = gdn n v1 ∧ mFr v v1 ∧ v1.1 0 0 8 = v.1 0 0 8 + iN (aW nb st).2.1) (by omega) hc.1.1 hc.1.2 hs (fun v1 _ _ h9 => absurd h9 ho) (fun v1 g1 g2 _ => ⟨rfl, v1, rfl, g1, g2⟩)) (fun v2 r h => ?_)
      obtain ⟨rfl, v1, rfl, g1, g2⟩ := h
      have l1 : v1.1 0 0 9 = iN lg := (g1.1 0 0 9 (by decide)).trans h1
      refine z_C.go 2 rfl ?_
      refine z_C.ret rfl rfl (hf v1 ho ⟨g1.2, fun g i k _ _ hg => g1.wide g i k hg, g2, ?_, fun h => absurd h ho, (fun h => by cases h), fun _ => ⟨g1.1 0 0 4 (by decide), fun g i k hg => g1.1 g i k (fun h => by omega)⟩⟩)
      show v1.1 0 0 9 = iN (if (aW nb st).1 = true then lg + nb else lg)
      rw [if_neg ho, l1]
  · have h : ¬ v.1 0 0 9 + iN nb ≤ 40 := h
    rw [h1, iN_add] at h
    exact absurd ((iN_le (b := 40) (by omega) (by decide)).mpr hl) h
