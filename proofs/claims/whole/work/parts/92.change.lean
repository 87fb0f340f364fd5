/-! a job's state changes -/
theorem m_transact {nb lg n : Nat} {A : Nat → Nat → Nat} {st : Option Nat} {v : z_W} {Q : z_W → Option z_V → Prop} (hnb : nb ≤ 10) (hlg : lg ≤ 40) (h1 : v.1 0 0 9 = iN lg) (hc : mLv n A v) (hlv : nLive A n ≤ 90) (hs : stM st v)
    (hq : ∀ v1, (aT nb lg (nLive A n) st).1 = true → mT (aT nb lg (nLive A n) st) n A v v1 → Q v1 (some (zI 1))) (hf : ∀ v1, ¬ (aT nb lg (nLive A n) st).1 = true → mT (aT nb lg (nLive A n) st) n A v v1 → Q (gdn (tN (aT nb lg (nLive A n) st) n A) v1) (some (zI 0))) :
    mRun kX_transact (0, [some (zR 0 0), some (zI (iN nb)), none], [], v) Q := by
  by_cases hl : lg + nb ≤ 40
  · have e := aT_a (live := nLive A n) (st := st) hl
    refine m_transactA hnb hl h1 hc hs (fun v1 g1 g2 => hq v1 (by rw [e]; exact g1) g2) (fun v1 g1 g2 => ?_)
    have k9 := hf v1 (by rw [e]; exact g1) g2
    have en : tN (aT nb lg (nLive A n) st) n A = n := by rw [e]; rfl
    rw [en] at k9
    exact k9
  · by_cases h2 : (aW (nLive A n + 1) st).1 = true
    · have e := aT_b hl h2
      refine m_transactB hnb hlg hl h1 hc hlv hs h2 (fun v1 g1 g2 => hq v1 (by rw [e]; exact g1) g2) (fun v1 g1 g2 => ?_)
      have k9 := hf v1 (by rw [e]; exact g1) g2
      have en : tN (aT nb lg (nLive A n) st) n A = (fgt A n).1 := by rw [e]; rfl
      rw [en] at k9
      exact k9
    · have e := aT_c hl h2
      refine m_transactC hnb hlg hl h1 hc hlv hs h2 (fun v1 g2 => ?_)
      have k9 := hf v1 (by rw [e]; exact (fun h => by cases h)) g2
      have en : tN (aT nb lg (nLive A n) st) n A = n := by rw [e]; rfl
      rw [en] at k9
      exact k9
theorem e_changeState {lg n r : Nat} {x : Int32} {A : Nat → Nat → Nat} {st : Option Nat} {w : z_W} {Q : z_W → Option z_V → Prop} (hlg : lg ≤ 40) (h1 : w.1 11 0 1 = iN lg) (hc : cLv n A w) (hlv : nLive A n ≤ 90) (h5 : ∀ k, k < 20 → w.2.2 13 0 k < 20) (h6 : ∀ k l, k < 20 → l < 20 → w.2.2 13 0 k = w.2.2 13 0 l → k = l) (hs : stopIs st (w.1 11 0 3))
    (hq : ∀ w', cT (aT 1 lg (nLive A n) st) n A w w' → (aT 1 lg (nLive A n) st).1 = true → Q (z_si w' 9 r 2 x) (some (zI 1))) (hf : ∀ w', cT (aT 1 lg (nLive A n) st) n A w w' → ¬ (aT 1 lg (nLive A n) st).1 = true → Q w' (some (zI 0))) :
    cRun kS_changeState (0, [some (zR 12 0), some (zR 9 r), some (zI x)], [], w) Q := by
  refine z_C.go 2 rfl ?_
  refine z_C.call rfl rfl (e_logged (nb := 1) (Q := fun w' r => cT (aT 1 lg (nLive A n) st) n A w w' ∧ r = some (zI (if (aT 1 lg (nLive A n) st).1 = true then 1 else 0))) (by decide) hlg h1 hc hlv h5 h6 hs (fun w' h => ⟨h, rfl⟩)) (fun w' r h => ?_)
  obtain ⟨h, rfl⟩ := h
  by_cases ht : (aT 1 lg (nLive A n) st).1 = true
  · rw [if_pos ht]
    refine z_C.go 5 rfl ?_
    exact z_C.ret rfl rfl (hq w' h ht)
  · rw [if_neg ht]
    refine z_C.go 2 rfl ?_
    exact z_C.ret rfl rfl (hf w' h ht)
theorem m_change {lg n k : Nat} {x y : Int32} {A : Nat → Nat → Nat} {st : Option Nat} {v : z_W} {Q : z_W → Option z_V → Prop} (hlg : lg ≤ 40) (h1 : v.1 0 0 9 = iN lg) (hc : mLv n A v) (hlv : nLive A n ≤ 90) (hs : stM st v) (hk : k ≤ 24)
    (hfd : ∀ v1, mT (aT 1 lg (nLive A n) st) n A v v1 → v1.1 0 0 4 = iN (tN (aT 1 lg (nLive A n) st) n A) ∧ fndF (fun j => v1.1 2 0 (10 * j)) x (tN (aT 1 lg (nLive A n) st) n A) 0 = some k)
    (hq : ∀ v1, mT (aT 1 lg (nLive A n) st) n A v v1 → (aT 1 lg (nLive A n) st).1 = true → Q (z_si v1 2 0 (10 * k + 1) y) (some (zI 1))) (hf : ∀ v1, mT (aT 1 lg (nLive A n) st) n A v v1 → ¬ (aT 1 lg (nLive A n) st).1 = true → Q (gdn (tN (aT 1 lg (nLive A n) st) n A) v1) (some (zI 0))) :
    mRun kX_change (0, [some (zR 0 0), some (zI x), some (zI y), none], [], v) Q := by
  refine z_C.go 2 rfl ?_
  by_cases ht : (aT 1 lg (nLive A n) st).1 = true
  · refine z_C.call rfl rfl (m_transact (nb := 1) (Q := fun v1 r => mT (aT 1 lg (nLive A n) st) n A v v1 ∧ r = some (zI 1)) (by decide) hlg h1 hc hlv hs (fun v1 _ h => ⟨h, rfl⟩) (fun v1 h _ => absurd ht h)) (fun v1 r h => ?_)
    obtain ⟨h, rfl⟩ := h
    obtain ⟨f1, f2⟩ := hfd v1 h
    have hle := tN_le (aT 1 lg (nLive A n) st) n A
    have hn := hc.1.1
    refine z_C.go 8 rfl ?_
    refine z_C.call rfl rfl (m_find (Q := fun w' r => w' = v1 ∧ r = some (zI (iN k))) f1 (by omega) ⟨rfl, by rw [f2]; rfl⟩) (fun w' r h => ?_)
    obtain ⟨rfl, rfl⟩ := h
    obtain ⟨-, i1, n1⟩ := j_ix (k := k) (f := 1) (by omega) (by decide)
    refine z_C.go 4 rfl ?_
    refine z_C.go1 rfl (if_pos ⟨rfl, i1⟩) ?_
    refine z_C.go 1 rfl ?_
    have k9 := hq w' h ht
    rw [← n1] at k9
    exact z_C.ret rfl rfl k9
  · refine z_C.call rfl rfl (m_transact (nb := 1) (Q := fun v2 r => ∃ v1, v2 = gdn (tN (aT 1 lg (nLive A n) st) n A) v1 ∧ mT (aT 1 lg (nLive A n) st) n A v v1 ∧ r = some (zI 0)) (by decide) hlg h1 hc hlv hs (fun v1 h _ => absurd h ht) (fun v1 _ h => ⟨v1, rfl, h, rfl⟩)) (fun v2 r h => ?_)
    obtain ⟨v1, rfl, h, rfl⟩ := h
    refine z_C.go 4 rfl ?_
    exact z_C.ret rfl rfl (hf v1 h ht)
def bClr (b : Nat) (w : z_W) : z_W := z_si (z_si w 1 b 1 0) 1 b 2 0
theorem e_clear {b : Nat} {w : z_W} {Q : z_W → Option z_V → Prop} (hq : Q (bClr b w) none) : cRun kB_clear (0, [some (zR 1 b)], [], w) Q := by
  refine z_C.go 6 rfl ?_
  exact z_C.ret rfl rfl hq
theorem e_goneDown {w : z_W} {Q : z_W → Option z_V → Prop} (hq : Q (bClr 1 w) (some (zI (-1)))) : cRun kP_goneDown (0, [some (zR 0 0)], [], w) Q := by
  refine z_C.go 2 rfl ?_
  refine z_C.call rfl rfl (e_clear (b := 1) (Q := fun w' r => w' = bClr 1 w ∧ r = none) ⟨rfl, rfl⟩) (fun w' r h => ?_)
  obtain ⟨rfl, rfl⟩ := h
  refine z_C.go 1 rfl ?_
  exact z_C.ret rfl rfl hq
/-! where a job that has not ended is behind a transaction -/
theorem fgt_sur (A : Nat → Nat → Nat) : ∀ i k, k < i → ¬ (A k 2 = 7 ∨ A k 2 = 9) → ∃ l, l < (fgt A i).1 ∧ (fgt A i).2 l = k := by
  intro i
  induction i with
  | zero => intro k h; omega
  | succ i ih =>
    intro k hk he
    by_cases h : A i 2 = 7 ∨ A i 2 = 9
    · rw [fgt_end h]
      refine ih k ?_ he
      have : k ≠ i := fun e => he (by rw [e]; exact h)
      omega
    · rw [fgt_live h]
      by_cases e : k = i
      · exact ⟨(fgt A i).1, Nat.lt_succ_self _, by show (if (fgt A i).1 = (fgt A i).1 then i else _) = k; rw [if_pos rfl, e]⟩
      · obtain ⟨l, l1, l2⟩ := ih k (by omega) he
        exact ⟨l, by show l < (fgt A i).1 + 1; omega, by show (if l = (fgt A i).1 then i else (fgt A i).2 l) = k; rw [if_neg (by omega)]; exact l2⟩
def tIx (t : Bool × Nat × Option Nat × Nat × Bool) (n : Nat) (A : Nat → Nat → Nat) (k l : Nat) : Prop := l < tN t n A ∧ (t.2.2.2.2 = true → (fgt A n).2 l = k) ∧ (¬ t.2.2.2.2 = true → l = k)
theorem tIx_ex (t : Bool × Nat × Option Nat × Nat × Bool) {n k : Nat} {A : Nat → Nat → Nat} (hk : k < n) (he : ¬ (A k 2 = 7 ∨ A k 2 = 9)) : ∃ l, tIx t n A k l := by
  unfold tIx tN
  by_cases h : t.2.2.2.2 = true
  · obtain ⟨l, l1, l2⟩ := fgt_sur A n k hk he
    exact ⟨l, by rw [if_pos h]; exact l1, fun _ => l2, fun h9 => absurd h h9⟩
  · exact ⟨k, by rw [if_neg h]; exact hk, fun h9 => absurd h9 h, fun _ => rfl⟩
theorem tIx.f {t : Bool × Nat × Option Nat × Nat × Bool} {n k l : Nat} {A : Nat → Nat → Nat} (h : tIx t n A k l) (f : Nat) : tA t n A l f = A k f := by
  unfold tA
  by_cases hn : t.2.2.2.2 = true
  · rw [if_pos hn]
    show A ((fgt A n).2 l) f = _
    rw [h.2.1 hn]
  · rw [if_neg hn, h.2.2 hn]
theorem tIx.ref {t : Bool × Nat × Option Nat × Nat × Bool} {n k l : Nat} {A : Nat → Nat → Nat} {w w' : z_W} (h : tIx t n A k l) (hc : cT t n A w w') : w'.2.2 13 0 l = w.2.2 13 0 k := by
  obtain ⟨h1, h2, h3⟩ := h
  obtain ⟨-, -, -, -, -, -, c7, c8⟩ := hc
  by_cases hn : t.2.2.2.2 = true
  · unfold tN at h1
    rw [if_pos hn] at h1
    rw [(c7 hn).2.1 l h1, h2 hn]
  · rw [(c8 hn).2, h3 hn]
/-- what holds of all jobs holds of those that are left -/
theorem tA_all {t : Bool × Nat × Option Nat × Nat × Bool} {n : Nat} {A : Nat → Nat → Nat} {P : (Nat → Nat) → Prop} (h : ∀ k, k < n → P (A k)) : ∀ l, l < tN t n A → P (tA t n A l) := by
  intro l hl
  unfold tN at hl
  unfold tA
  by_cases hn : t.2.2.2.2 = true
  · rw [if_pos hn] at hl ⊢
    exact h _ (fgt_in A n l hl).1
  · rw [if_neg hn] at hl ⊢
    exact h l hl
theorem tA_mono {t : Bool × Nat × Option Nat × Nat × Bool} {n : Nat} {A : Nat → Nat → Nat} (h : ∀ k l, k < l → l < n → A k 1 < A l 1) : ∀ k l, k < l → l < tN t n A → tA t n A k 1 < tA t n A l 1 := by
  intro k l hkl hl
  unfold tN at hl
  unfold tA
  by_cases hn : t.2.2.2.2 = true
  · rw [if_pos hn] at hl ⊢
    exact h _ _ (fgt_mono A n k l hkl hl) (fgt_in A n l hl).1
  · rw [if_neg hn] at hl ⊢
    exact h k l hkl hl
theorem tA_one {t : Bool × Nat × Option Nat × Nat × Bool} {n : Nat} {A : Nat → Nat → Nat} (h : ∀ k l, k < n → l < n → A k 2 = 5 → A l 2 = 5 → k = l) : ∀ k l, k < tN t n A → l < tN t n A → tA t n A k 2 = 5 → tA t n A l 2 = 5 → k = l := by
  intro k l hk hl
  unfold tN at hk hl
  unfold tA
  by_cases hn : t.2.2.2.2 = true
  · rw [if_pos hn] at hk hl ⊢
    intro e1 e2
    have e := h _ _ (fgt_in A n k hk).1 (fgt_in A n l hl).1 e1 e2
    rcases Nat.lt_trichotomy k l with h9 | h9 | h9
    · have := fgt_mono A n k l h9 hl
      omega
    · exact h9
    · have := fgt_mono A n l k h9 hk
      omega
  · rw [if_neg hn] at hk hl ⊢
    exact h k l hk hl
theorem fnd_at {n k : Nat} {A : Nat → Nat → Nat} (hm : ∀ k l, k < l → l < n → A k 1 < A l 1) (hb : ∀ k, k < n → A k 1 < 2147483648) (hk : k < n) : ∀ d i, i + d = n → i ≤ k → fndF (fun j => iN (A j 1)) (iN (A k 1)) d i = some k := by
  intro d
  induction d with
  | zero => intro i h1 h2; omega
  | succ d ih =>
    intro i h1 h2
    unfold fndF
    by_cases e : i = k
    · rw [if_pos (by rw [e]), e]
    · rw [if_neg (fun h => by have := (iN_inj (hb i (by omega)) (hb k hk)).mp h; have := hm i k (by omega) hk; omega)]
      exact ih (i + 1) (by omega) (by omega)
/-! one field of a job changes on both sides -/
def aSet (A : Nat → Nat → Nat) (k f x j g : Nat) : Nat := if j = k ∧ g = f then x else A j g
theorem aSet_s {A : Nat → Nat → Nat} {k f x : Nat} : aSet A k f x k f = x := if_pos ⟨rfl, rfl⟩
theorem aSet_f {A : Nat → Nat → Nat} {k f x j g : Nat} (h : ¬ g = f) : aSet A k f x j g = A j g := if_neg (fun h9 => h h9.2)
theorem aSet_k {A : Nat → Nat → Nat} {k f x j g : Nat} (h : ¬ j = k) : aSet A k f x j g = A j g := if_neg (fun h9 => h h9.1)
theorem J_state {n nx k s : Nat} {A : Nat → Nat → Nat} {w v : z_W} (hk : k < n) (hj : rJobs n nx 1 A w v) : rJobs n nx 1 (aSet A k 2 s) (z_si w 9 (w.2.2 13 0 k) 2 (iN s)) (z_si v 2 0 (10 * k + 1) (iN s)) := by
  obtain ⟨⟨j1, j2, j3⟩, ⟨j4, j4'⟩, ⟨j5, j6⟩, j7, j8, j9⟩ := hj
  refine ⟨⟨j1, j2, j3⟩, ⟨j4, j4'⟩, ⟨j5, j6⟩, fun l hl f hf1 hf2 => ?_, fun l hl => ?_, fun l hl q hq => ?_⟩
  · show (if 9 = 9 ∧ w.2.2 13 0 l = w.2.2 13 0 k ∧ f = 2 then iN s else w.1 9 (w.2.2 13 0 l) f) = _ ∧ (if 2 = 2 ∧ 0 = 0 ∧ 10 * l + (f - 1) = 10 * k + 1 then iN s else v.1 2 0 (10 * l + (f - 1))) = _
    by_cases e : l = k ∧ f = 2
    · obtain ⟨rfl, rfl⟩ := e
      rw [aSet_s]
      exact ⟨if_pos ⟨rfl, rfl, rfl⟩, if_pos ⟨rfl, rfl, rfl⟩⟩
    · have e1 : aSet A k 2 s l f = A l f := if_neg e
      rw [e1]
      have a := j7 l hl f hf1 hf2
      exact ⟨(if_neg (fun h => e ⟨j6 l k (by omega) (by omega) h.2.1, h.2.2⟩)).trans a.1, (if_neg (fun h => e (by omega))).trans a.2⟩
  · have e1 : aSet A k 2 s l 9 = A l 9 := aSet_f (by decide)
    have a := j8 l hl
    rw [if_pos (Or.inl rfl)] at a
    rw [if_pos (Or.inl rfl), e1]
    exact ⟨(if_neg (fun h => absurd h.2.2 (by decide))).trans a.1, (if_neg (fun h => by omega)).trans a.2⟩
  · have e1 : aSet A k 2 s l 8 = A l 8 := aSet_f (by decide)
    rw [e1] at hq
    exact j9 l hl q hq
theorem J_sent {n nx k s : Nat} {A : Nat → Nat → Nat} {w v : z_W} (hk : k < n) (hj : rJobs n nx 1 A w v) : rJobs n nx 1 (aSet A k 9 s) (z_si w 9 (w.2.2 13 0 k) 9 (iN s)) (z_si v 2 0 (10 * k + 8) (iN s)) := by
  obtain ⟨⟨j1, j2, j3⟩, ⟨j4, j4'⟩, ⟨j5, j6⟩, j7, j8, j9⟩ := hj
  refine ⟨⟨j1, j2, j3⟩, ⟨j4, j4'⟩, ⟨j5, j6⟩, fun l hl f hf1 hf2 => ?_, fun l hl => ?_, fun l hl q hq => ?_⟩
  · have e1 : aSet A k 9 s l f = A l f := aSet_f (by omega)
    rw [e1]
    have a := j7 l hl f hf1 hf2
    exact ⟨(if_neg (fun h => by omega)).trans a.1, (if_neg (fun h => by omega)).trans a.2⟩
  · have a := j8 l hl
    rw [if_pos (Or.inl rfl)] at a
    rw [if_pos (Or.inl rfl)]
    show (if 9 = 9 ∧ w.2.2 13 0 l = w.2.2 13 0 k ∧ 9 = 9 then iN s else w.1 9 (w.2.2 13 0 l) 9) = _ ∧ (if 2 = 2 ∧ 0 = 0 ∧ 10 * l + 8 = 10 * k + 8 then iN s else v.1 2 0 (10 * l + 8)) = _
    by_cases e : l = k
    · subst e
      rw [aSet_s]
      exact ⟨if_pos ⟨rfl, rfl, rfl⟩, if_pos ⟨rfl, rfl, rfl⟩⟩
    · rw [aSet_k e]
      exact ⟨(if_neg (fun h => e (j6 l k (by omega) (by omega) h.2.1))).trans a.1, (if_neg (fun h => e (by omega))).trans a.2⟩
  · have e1 : aSet A k 9 s l 8 = A l 8 := aSet_f (by decide)
    rw [e1] at hq
    exact j9 l hl q hq
