/-! what a tick keeps of the jobs -/
def wJobs (n nx lg : Nat) (A : Nat → Nat → Nat) : Prop :=
  (∀ k, k < n → aJob (A k) nx) ∧ (∀ k l, k < l → l < n → A k 1 < A l 1) ∧ (∀ k l, k < n → l < n → A k 2 = 5 → A l 2 = 5 → k = l) ∧ (∀ k, k < n → A k 9 ≤ nTot (A k) ∧ (A k 2 = 3 ∨ A k 2 = 4 → A k 9 = 0)) ∧ nBlk A n ≤ lg ∧ nLive A n ≤ 36
theorem vJobs.w {n nx lg up : Nat} {A : Nat → Nat → Nat} (h : vJobs n nx lg up A) : wJobs n nx lg A := ⟨h.1, h.2.1, h.2.2.1, fun k hk => ⟨(h.2.2.2.1 k hk).1, (h.2.2.2.1 k hk).2.1⟩, h.2.2.2.2⟩
theorem wJobs.v {n nx lg up : Nat} {A : Nat → Nat → Nat} (h : wJobs n nx lg A) (h5 : ∀ k, k < n → A k 2 = 5 → up = 1 → A k 9 < nTot (A k)) : vJobs n nx lg up A := ⟨h.1, h.2.1, h.2.2.1, fun k hk => ⟨(h.2.2.2.1 k hk).1, (h.2.2.2.1 k hk).2, h5 k hk⟩, h.2.2.2.2⟩
theorem aSet_row {A : Nat → Nat → Nat} {k f x l : Nat} (h : ¬ l = k) : aSet A k f x l = A l := funext fun g => aSet_k h
theorem aJob_9 {A : Nat → Nat → Nat} {k x l nx : Nat} (h : aJob (A l) nx) : aJob (aSet A k 9 x l) nx := by
  have e : ∀ f, ¬ f = 9 → aSet A k 9 x l f = A l f := fun f hf => aSet_f hf
  unfold aJob at h ⊢
  rw [e 1 (by decide), e 2 (by decide), e 3 (by decide), e 4 (by decide), e 5 (by decide), e 6 (by decide), e 7 (by decide), e 8 (by decide)]
  exact h
theorem aJob_2 {A : Nat → Nat → Nat} {k s l nx : Nat} (h : aJob (A l) nx) (hs : nSt s) : aJob (aSet A k 2 s l) nx := by
  have e : ∀ f, ¬ f = 2 → aSet A k 2 s l f = A l f := fun f hf => aSet_f hf
  by_cases hl : l = k
  · subst hl
    unfold aJob at h ⊢
    rw [e 1 (by decide), aSet_s, e 3 (by decide), e 4 (by decide), e 5 (by decide), e 6 (by decide), e 7 (by decide), e 8 (by decide)]
    exact ⟨h.1, hs, h.2.2⟩
  · rw [aSet_row hl]
    exact h
theorem nTot_9 {A : Nat → Nat → Nat} {k x l : Nat} : nTot (aSet A k 9 x l) = nTot (A l) := by
  have e : ∀ f, ¬ f = 9 → aSet A k 9 x l f = A l f := fun f hf => aSet_f hf
  unfold nTot
  rw [e 3 (by decide), e 5 (by decide), e 6 (by decide), e 7 (by decide), e 8 (by decide)]
theorem nTot_2 {A : Nat → Nat → Nat} {k x l : Nat} : nTot (aSet A k 2 x l) = nTot (A l) := by
  have e : ∀ f, ¬ f = 2 → aSet A k 2 x l f = A l f := fun f hf => aSet_f hf
  unfold nTot
  rw [e 3 (by decide), e 5 (by decide), e 6 (by decide), e 7 (by decide), e 8 (by decide)]
theorem nLive_set {A : Nat → Nat → Nat} {k s : Nat} (he : ¬ (A k 2 = 7 ∨ A k 2 = 9)) : ∀ n, nLive (aSet A k 2 s) n ≤ nLive A n := by
  intro n
  induction n with
  | zero => exact Nat.le_refl _
  | succ n ih =>
    show nLive (aSet A k 2 s) n + (if aSet A k 2 s n 2 = 7 ∨ aSet A k 2 s n 2 = 9 then 0 else 1 + aSet A k 2 s n 8) ≤ nLive A n + (if A n 2 = 7 ∨ A n 2 = 9 then 0 else 1 + A n 8)
    have e8 : aSet A k 2 s n 8 = A n 8 := aSet_f (by decide)
    rw [e8]
    by_cases e : n = k
    · subst e
      rw [if_neg he]
      split <;> omega
    · rw [aSet_k e]
      omega
theorem wJobs.set9 {n nx lg k x : Nat} {A : Nat → Nat → Nat} (h : wJobs n nx lg A) (h5 : A k 2 = 5) (hx : x ≤ nTot (A k)) : wJobs n nx lg (aSet A k 9 x) := by
  obtain ⟨h1, h2, h3, h4, h6, h7⟩ := h
  have e : ∀ l f, ¬ f = 9 → aSet A k 9 x l f = A l f := fun l f hf => aSet_f hf
  refine ⟨fun l hl => aJob_9 (h1 l hl), fun a b hab hb => ?_, fun a b ha hb => ?_, fun l hl => ?_, ?_, ?_⟩
  · rw [e a 1 (by decide), e b 1 (by decide)]
    exact h2 a b hab hb
  · rw [e a 2 (by decide), e b 2 (by decide)]
    exact h3 a b ha hb
  · rw [nTot_9, e l 2 (by decide)]
    by_cases el : l = k
    · subst el
      rw [aSet_s]
      exact ⟨hx, fun h9 => by omega⟩
    · rw [aSet_k el]
      exact h4 l hl
  · rw [nBlk_congr (A := aSet A k 9 x) (B := A) n (fun l _ => e l 8 (by decide))]
    exact h6
  · rw [nLive_congr (A := aSet A k 9 x) (B := A) n (fun l _ => ⟨e l 8 (by decide), e l 2 (by decide)⟩)]
    exact h7
theorem wJobs.set2 {n nx lg k s : Nat} {A : Nat → Nat → Nat} (h : wJobs n nx lg A) (hs : nSt s) (he : ¬ (A k 2 = 7 ∨ A k 2 = 9)) (h5 : s = 5 → ∀ l, l < n → A l 2 = 5 → l = k) (h0 : s = 3 ∨ s = 4 → A k 9 = 0) : wJobs n nx lg (aSet A k 2 s) := by
  obtain ⟨h1, h2, h3, h4, h6, h7⟩ := h
  have e : ∀ l f, ¬ f = 2 → aSet A k 2 s l f = A l f := fun l f hf => aSet_f hf
  refine ⟨fun l hl => aJob_2 (h1 l hl) hs, fun a b hab hb => ?_, fun a b ha hb g1 g2 => ?_, fun l hl => ?_, ?_, ?_⟩
  · rw [e a 1 (by decide), e b 1 (by decide)]
    exact h2 a b hab hb
  · by_cases ea : a = k
    · by_cases eb : b = k
      · rw [ea, eb]
      · rw [aSet_k eb] at g2
        rw [ea, aSet_s] at g1
        exact absurd (h5 g1 b hb g2) eb
    · rw [aSet_k ea] at g1
      by_cases eb : b = k
      · rw [eb, aSet_s] at g2
        exact absurd (h5 g2 a ha g1) ea
      · rw [aSet_k eb] at g2
        exact h3 a b ha hb g1 g2
  · rw [nTot_2, e l 9 (by decide)]
    by_cases el : l = k
    · subst el
      rw [aSet_s]
      exact ⟨(h4 l hl).1, h0⟩
    · rw [aSet_k el]
      exact h4 l hl
  · rw [nBlk_congr (A := aSet A k 2 s) (B := A) n (fun l _ => e l 8 (by decide))]
    exact h6
  · exact Nat.le_trans (nLive_set he n) h7
/-- the log behind a transaction -/
theorem aT_log {nb lg n : Nat} {A : Nat → Nat → Nat} {st : Option Nat} (hb : nBlk A n ≤ lg) (hl : lg ≤ 40) (hv : nLive A n + nb ≤ 40) :
    (aT nb lg (nLive A n) st).2.2.2.1 ≤ 40 ∧ nBlk (tA (aT nb lg (nLive A n) st) n A) (tN (aT nb lg (nLive A n) st) n A) + (if (aT nb lg (nLive A n) st).1 = true then nb else 0) ≤ (aT nb lg (nLive A n) st).2.2.2.1 ∧ nLive (tA (aT nb lg (nLive A n) st) n A) (tN (aT nb lg (nLive A n) st) n A) = nLive A n := by
  by_cases h1 : lg + nb ≤ 40
  · rw [aT_a h1]
    show (if (aW nb st).1 = true then lg + nb else lg) ≤ 40 ∧ nBlk A n + (if (aW nb st).1 = true then nb else 0) ≤ (if (aW nb st).1 = true then lg + nb else lg) ∧ nLive A n = nLive A n
    refine ⟨by split <;> omega, by split <;> omega, rfl⟩
  · by_cases h2 : (aW (nLive A n + 1) st).1 = true
    · rw [aT_b h1 h2]
      generalize (aW nb (aW (nLive A n + 1) st).2.2).1 = o
      show (if o = true then nLive A n + nb else nLive A n) ≤ 40 ∧ nBlk (fgA A n) (fgt A n).1 + (if o = true then nb else 0) ≤ (if o = true then nLive A n + nb else nLive A n) ∧ nLive (fgA A n) (fgt A n).1 = nLive A n
      have e1 := fgt_blk A n
      have e2 := nLive_all (A := fgA A n) (fgt A n).1 (fun k hk => (fgt_in A n k hk).2)
      refine ⟨by split <;> omega, by split <;> omega, by omega⟩
    · rw [aT_c h1 h2]
      show lg ≤ 40 ∧ nBlk A n + 0 ≤ lg ∧ nLive A n = nLive A n
      exact ⟨hl, by omega, rfl⟩
theorem wJobs.T {nb lg n nx : Nat} {A : Nat → Nat → Nat} {st : Option Nat} (h : wJobs n nx lg A) (hl : lg ≤ 40) (hv : nLive A n + nb ≤ 40) : wJobs (tN (aT nb lg (nLive A n) st) n A) nx (aT nb lg (nLive A n) st).2.2.2.1 (tA (aT nb lg (nLive A n) st) n A) := by
  obtain ⟨h1, h2, h3, h4, h6, h7⟩ := h
  obtain ⟨a1, a2, a3⟩ := aT_log (st := st) h6 hl hv
  exact ⟨tA_all (P := fun a => aJob a nx) h1, tA_mono h2, tA_one h3, tA_all (P := fun a => a 9 ≤ nTot a ∧ (a 2 = 3 ∨ a 2 = 4 → a 9 = 0)) h4, by omega, by rw [a3]; exact h7⟩
/-! both sides, while the house is up -/
def Core (len lg n nx : Nat) (A : Nat → Nat → Nat) (w v : z_W) : Prop := rDraft len w v ∧ rDisk lg 1 w v ∧ rPress w v ∧ rBuf 1 5 23 512 w v ∧ rBuf 2 6 25 256 w v ∧ rJobs n nx 1 A w v
theorem rDraft.fr {len : Nat} {w v w' v' : z_W} (h : rDraft len w v) (h1 : w'.1 1 0 1 = w.1 1 0 1) (h2 : ∀ k, w'.1 2 0 k = w.1 2 0 k) (h3 : v'.1 0 0 2 = v.1 0 0 2) (h4 : ∀ k, v'.1 1 0 k = v.1 1 0 k) : rDraft len w' v' := by
  obtain ⟨d1, d2, d3, d4⟩ := h
  exact ⟨d1, h1.trans d2, h3.trans d3, fun k hk => by rw [h2, h4]; exact d4 k hk⟩
theorem rBuf.fr {b g f cap : Nat} {w v w' v' : z_W} (h : rBuf b g f cap w v) (h1 : w'.1 1 b 1 = w.1 1 b 1) (h2 : ∀ k, w'.1 2 b k = w.1 2 b k) (h3 : v'.1 0 0 f = v.1 0 0 f) (h4 : ∀ k, v'.1 g 0 k = v.1 g 0 k) : rBuf b g f cap w' v' := by
  obtain ⟨a, d1, d2, d3, d4⟩ := h
  exact ⟨a, d1, h1.trans d2, by rw [h3]; exact d3, fun k hk => by rw [h2, h4]; exact d4 k hk⟩
theorem rDisk.fr {lg up : Nat} {w v w' v' : z_W} (h : rDisk lg up w v) (h1 : ∀ k, w'.1 11 0 k = w.1 11 0 k) (h2 : ∀ k, k = 8 ∨ k = 9 ∨ k = 1 ∨ k = 11 ∨ k = 12 → v'.1 0 0 k = v.1 0 0 k) : rDisk lg up w' v' := by
  unfold rDisk at h ⊢
  rw [h1, h1, h1, h1, h2 8 (by decide), h2 9 (by decide), h2 1 (by decide), h2 11 (by decide), h2 12 (by decide)]
  exact h
theorem Core.state {len lg n nx k s : Nat} {A : Nat → Nat → Nat} {w v : z_W} (h : Core len lg n nx A w v) (hk : k < n) : Core len lg n nx (aSet A k 2 s) (z_si w 9 (w.2.2 13 0 k) 2 (iN s)) (z_si v 2 0 (10 * k + 1) (iN s)) := by
  obtain ⟨h1, h2, h3, h4, h5, h6⟩ := h
  exact ⟨h1, h2, h3, h4, h5, J_state hk h6⟩
theorem Core.sent0 {len lg n nx k : Nat} {A : Nat → Nat → Nat} {w v : z_W} (h : Core len lg n nx A w v) (hk : k < n) (h0 : A k 9 = 0) : Core len lg n nx A w (z_si v 2 0 (10 * k + 8) 0) := by
  obtain ⟨h1, h2, h3, h4, h5, j1, j2, j3, j7, j8, j9⟩ := h
  refine ⟨h1, h2, h3, h4, h5, j1, j2, j3, fun l hl f g1 g2 => ⟨(j7 l hl f g1 g2).1, (if_neg (fun h => by omega)).trans (j7 l hl f g1 g2).2⟩, fun l hl => ⟨(j8 l hl).1, ?_⟩, j9⟩
  show (if 2 = 2 ∧ 0 = 0 ∧ 10 * l + 8 = 10 * k + 8 then (0 : Int32) else v.1 2 0 (10 * l + 8)) = _
  by_cases e : l = k
  · subst e
    rw [if_pos ⟨rfl, rfl, rfl⟩, if_pos (Or.inl rfl), h0]
    rfl
  · rw [if_neg (fun h => by omega)]
    exact (j8 l hl).2
theorem Core.sent {len lg n nx k t : Nat} {A : Nat → Nat → Nat} {w v w2 v2 : z_W} {L : List Int32} (h : Core len lg n nx A w v) (hk : k < n) (ht : A k 9 = t) (f2 : sF (w.2.2 13 0 k) w w2) (o2 : bOut 2 L w2) (g2 : sM v v2) (p2 : mOut 6 25 L v2) (hb : ∀ x ∈ L, x &&& 255 = x) (hL : L.length ≤ 256) :
    Core len lg n nx (aSet A k 9 (t + 1)) w2 (z_si v2 2 0 (10 * k + 8) (iN (t + 1))) := by
  obtain ⟨h1, h2, h3, h4, h5, h6⟩ := h
  have hk20 : k < 20 := Nat.lt_of_lt_of_le hk h6.1.1
  obtain ⟨e1, e2, e3, e4⟩ := f2
  obtain ⟨m1, m2, m3⟩ := g2
  have hJ := J_sent (s := t + 1) hk h6
  have er : w2.2.2 = w.2.2 := by rw [e1]
  refine ⟨h1.fr (e2 1 0 1 (by omega) (by omega) (by omega) (by omega)) (fun q => e2 2 0 q (by omega) (by omega) (by omega) (by omega)) (m2 0 0 2 (by omega) (by omega) (by omega)) (fun q => m2 1 0 q (by omega) (by omega) (by omega)),
    h2.fr (fun q => e2 11 0 q (by omega) (by omega) (by omega) (by omega)) (fun q hq => m2 0 0 q (by omega) (by omega) (by omega)), ?_,
    h4.fr (e2 1 1 1 (by omega) (by omega) (by omega) (by omega)) (fun q => e2 2 1 q (by omega) (by omega) (by omega) (by omega)) (m2 0 0 23 (by omega) (by omega) (by omega)) (fun q => m2 5 0 q (by omega) (by omega) (by omega)), ?_, ?_⟩
  · show w2.1 14 0 2 = v2.1 0 0 10
    rw [e3, m3, show w.1 14 0 2 = v.1 0 0 10 from h3]
  · exact (out_rel o2 p2 hb hL).fr rfl (fun _ => rfl) rfl (fun _ => rfl)
  · obtain ⟨⟨j1, j2, j3⟩, ⟨j4, j4'⟩, j5, j7, j8, j9⟩ := hJ
    have sent : w.1 9 (w.2.2 13 0 k) 9 = iN t := by rw [← ht]; exact (h6.2.2.2.2.1 k hk).1
    refine ⟨⟨j1, (e2 12 0 2 (by omega) (by omega) (by omega) (by omega)).trans j2, (m2 0 0 4 (by omega) (by omega) (by omega)).trans j3⟩, ⟨(e2 12 0 3 (by omega) (by omega) (by omega) (by omega)).trans j4, (m2 0 0 7 (by omega) (by omega) (by omega)).trans j4'⟩, by rw [er]; exact j5, fun l hl f g1 g2 => ?_, fun l hl => ?_, fun l hl q hq => ?_⟩
    · have a := j7 l hl f g1 g2
      rw [er]
      refine ⟨?_, ?_⟩
      · rw [e2 9 _ f (by omega) (by omega) (by omega) (by omega)]
        exact (if_neg (fun h => by omega)).symm.trans a.1
      · refine (if_neg (fun h => by omega)).trans ?_
        rw [m2 2 0 _ (by omega) (by omega) (by omega)]
        exact (if_neg (fun h => by omega)).symm.trans a.2
    · have a := j8 l hl
      rw [er]
      by_cases el : l = k
      · subst el
        refine ⟨?_, ?_⟩
        · rw [e4, sent, aSet_s]
          exact iN_add t 1
        · rw [if_pos (Or.inl rfl), aSet_s]
          exact if_pos ⟨rfl, rfl, rfl⟩
      · have hne : ¬ w.2.2 13 0 l = w.2.2 13 0 k := fun h => el (h6.2.2.1.2 l k (by omega) hk20 h)
        refine ⟨?_, ?_⟩
        · rw [e2 9 _ 9 (by omega) (by omega) (by omega) (fun h => hne h.2.1)]
          exact (if_neg (fun h => hne h.2.1)).symm.trans a.1
        · refine (if_neg (fun h => by omega)).trans ?_
          rw [m2 2 0 _ (by omega) (by omega) (by omega)]
          exact (if_neg (fun h => by omega)).symm.trans a.2
    · have a := j9 l hl q hq
      rw [er, e2 10 _ q (by omega) (by omega) (by omega) (by omega)]
      have ev : (z_si v2 2 0 (10 * k + 8) (iN (t + 1))).1 3 0 (72 * l + q) = v.1 3 0 (72 * l + q) := m2 3 0 _ (by omega) (by omega) (by omega)
      rw [ev]
      exact a
theorem cT.fr {t : Bool × Nat × Option Nat × Nat × Bool} {n : Nat} {A : Nat → Nat → Nat} {w w' : z_W} (h : cT t n A w w') : ∀ g i k, ¬ g = 11 → ¬ g = 12 → w'.1 g i k = w.1 g i k := fun g i k a b => h.1 g i k (fun h9 => a h9.1) (fun h9 => b h9.1)
theorem mT.fr {t : Bool × Nat × Option Nat × Nat × Bool} {n : Nat} {A : Nat → Nat → Nat} {v v' : z_W} (h : mT t n A v v') : ∀ g i k, ¬ g = 2 → ¬ g = 3 → ¬ (g = 0 ∧ (k = 4 ∨ k = 8 ∨ k = 9 ∨ k = 12)) → v'.1 g i k = v.1 g i k := fun g i k a b c => h.2.1 g i k a b (fun h9 => c ⟨h9.1, h9.2.2⟩)
theorem Core.T {t : Bool × Nat × Option Nat × Nat × Bool} {len lg n nx : Nat} {A : Nat → Nat → Nat} {w v w' v' : z_W} (h : Core len lg n nx A w v) (h8 : ∀ k, k < n → A k 8 ≤ 6) (hc : cT t n A w w') (hm : mT t n A v v') (ht : t.1 = true) (hl : t.2.2.2.1 ≤ 40) : Core len t.2.2.2.1 (tN t n A) nx (tA t n A) w' v' := by
  obtain ⟨h1, h2, h3, h4, h5, h6⟩ := h
  refine ⟨h1.fr (hc.fr 1 0 1 (by decide) (by decide)) (fun q => hc.fr 2 0 q (by decide) (by decide)) (hm.fr 0 0 2 (by decide) (by decide) (by decide)) (fun q => hm.fr 1 0 q (by decide) (by decide) (by omega)), T_up h2 hc hm ht hl, ?_,
    h4.fr (hc.fr 1 1 1 (by decide) (by decide)) (fun q => hc.fr 2 1 q (by decide) (by decide)) (hm.fr 0 0 23 (by decide) (by decide) (by decide)) (fun q => hm.fr 5 0 q (by decide) (by decide) (by omega)),
    h5.fr (hc.fr 1 2 1 (by decide) (by decide)) (fun q => hc.fr 2 2 q (by decide) (by decide)) (hm.fr 0 0 25 (by decide) (by decide) (by decide)) (fun q => hm.fr 6 0 q (by decide) (by decide) (by omega)), T_jobs h6 h8 hc hm⟩
  show w'.1 14 0 2 = v'.1 0 0 10
  rw [hc.fr 14 0 2 (by decide) (by decide), hm.fr 0 0 10 (by decide) (by decide) (by decide)]
  exact h3
/-- both sides when the house has gone down -/
theorem Core.D {nb len lg n nx : Nat} {A : Nat → Nat → Nat} {st : Option Nat} {w v w' v' : z_W} (h : Core len lg n nx A w v) (hw : wJobs n nx lg A) (hlg : lg ≤ 40) (hlv : nLive A n + nb ≤ 40) (hc : cT (aT nb lg (nLive A n) st) n A w w') (hm : mT (aT nb lg (nLive A n) st) n A v v') (ht : ¬ (aT nb lg (nLive A n) st).1 = true) {j : Nat} (hx1 : 1 ≤ nx) (hx2 : nx ≤ j + 1) (hx3 : j ≤ 512) :
    Rel j (bClr 1 w') (gdn (tN (aT nb lg (nLive A n) st) n A) v') := by
  obtain ⟨h1, h2, h3, h4, h5, h6⟩ := h
  have hl := (aT_log (st := st) hw.2.2.2.2.1 hlg hlv).1
  have hW := hw.T (nb := nb) (st := st) hlg hlv
  have hd := T_down (m := tN (aT nb lg (nLive A n) st) n A) h2 hc hm ht (aT_down ht) hl
  have hJ := T_jobs h6 (fun k hk => (hw.1 k hk).2.2.2.2.2.2.2.2.2) hc hm
  have hD := J_down (fun k hk => (hW.1 k hk).2.1) hJ
  have cl : ∀ g i k, ¬ (g = 1 ∧ i = 1) → (bClr 1 w').1 g i k = w'.1 g i k := fun g i k hg => (if_neg (fun h => hg ⟨h.1, h.2.1⟩)).trans (if_neg (fun h => hg ⟨h.1, h.2.1⟩))
  have gz : ∀ k, ¬ k = 23 → ¬ k = 11 → ¬ k = 1 → (gdn (tN (aT nb lg (nLive A n) st) n A) v').1 0 0 k = v'.1 0 0 k := fun k a b c => by rw [gdn_0, if_neg a, if_neg b, if_neg c]
  have gg : ∀ g k, ¬ g = 0 → ¬ g = 2 → (gdn (tN (aT nb lg (nLive A n) st) n A) v').1 g 0 k = v'.1 g 0 k := fun g k a b => gdn_g a (fun h => b h.1)
  refine ⟨len, _, 0, _, nx, _, ?_, ?_, ?_, ?_, ?_, ?_, hW.v (fun k _ _ h => by omega), hx1, hx2, hx3⟩
  · exact h1.fr ((cl 1 0 1 (by decide)).trans (hc.fr 1 0 1 (by decide) (by decide))) (fun q => (cl 2 0 q (by omega)).trans (hc.fr 2 0 q (by decide) (by decide))) ((gz 2 (by decide) (by decide) (by decide)).trans (hm.fr 0 0 2 (by decide) (by decide) (by decide))) (fun q => (gg 1 q (by decide) (by decide)).trans (hm.fr 1 0 q (by decide) (by decide) (by omega)))
  · exact hd.fr (fun q => cl 11 0 q (by omega)) (fun q _ => rfl)
  · show (bClr 1 w').1 14 0 2 = _
    rw [cl 14 0 2 (by decide), gz 10 (by decide) (by decide) (by decide), hc.fr 14 0 2 (by decide) (by decide), hm.fr 0 0 10 (by decide) (by decide) (by decide)]
    exact h3
  · refine ⟨0, by decide, rfl, Or.inr ⟨rfl, ?_⟩, fun k hk => by omega⟩
    rw [gdn_0, if_pos rfl]
  · exact h5.fr ((cl 1 2 1 (by decide)).trans (hc.fr 1 2 1 (by decide) (by decide))) (fun q => (cl 2 2 q (by omega)).trans (hc.fr 2 2 q (by decide) (by decide))) ((gz 25 (by decide) (by decide) (by decide)).trans (hm.fr 0 0 25 (by decide) (by decide) (by decide))) (fun q => (gg 6 q (by decide) (by decide)).trans (hm.fr 6 0 q (by decide) (by decide) (by omega)))
  · obtain ⟨⟨j1, j2, j3⟩, ⟨j4, j4'⟩, j5, j7, j8, j9⟩ := hD
    exact ⟨⟨j1, (cl 12 0 2 (by decide)).trans j2, j3⟩, ⟨(cl 12 0 3 (by decide)).trans j4, j4'⟩, j5, fun k hk f g1 g2 => ⟨(cl 9 _ f (by omega)).trans (j7 k hk f g1 g2).1, (j7 k hk f g1 g2).2⟩, fun k hk => ⟨(cl 9 _ 9 (by omega)).trans (j8 k hk).1, (j8 k hk).2⟩, fun k hk q hq => by
      obtain ⟨b, b1, b2, b3⟩ := j9 k hk q hq
      exact ⟨b, b1, (cl 10 _ q (by omega)).trans b2, b3⟩⟩
