/-! a row of the reference's table is copied -/
def cpA (a b m : Nat) (v v' : z_W) : Prop := v'.2 = v.2 ∧ (∀ g i q, ¬ (g = 2 ∧ i = 0 ∧ 10 * b ≤ q ∧ q < 10 * b + m) → v'.1 g i q = v.1 g i q) ∧ ∀ f, f < m → v'.1 2 0 (10 * b + f) = v.1 2 0 (10 * a + f)
def cpB (a b m : Nat) (v v' : z_W) : Prop := v'.2 = v.2 ∧ (∀ g i q, ¬ (g = 3 ∧ i = 0 ∧ 72 * b ≤ q ∧ q < 72 * b + m) → v'.1 g i q = v.1 g i q) ∧ ∀ f, f < m → v'.1 3 0 (72 * b + f) = v.1 3 0 (72 * a + f)
theorem p_ix {k f : Nat} (hk : k ≤ 25) (hf : f < 72) : z_in (72 * iN k + iN f) 1872 = true ∧ (72 * iN k + iN f).toNatClampNeg = 72 * k + f := by
  have e : 72 * iN k + iN f = iN (72 * k + f) := by
    rw [← iN_add, ← iN_mul]
    rfl
  constructor
  · rw [e]
    exact iN_in (by omega) (by omega)
  · rw [e]
    exact iN_nat (by omega)
theorem m_copyB {a b : Nat} (ha : a ≤ 25) (hb : b ≤ 25) {v : z_W} {Q : z_W → Option z_V → Prop} (hq : ∀ v', cpB a b 72 v v' → Q v' none) : ∀ (d k : Nat) (v' : z_W), k + d = 72 → cpB a b k v v' →
    mRun kX_copy (38, [some (zR 0 0), some (zI (iN a)), some (zI (iN b)), some (zI (iN k))], [], v') Q := by
  intro d
  induction d with
  | zero =>
    intro k v' hk hc
    refine z_C.go 3 rfl ?_
    refine z_C.if (fun _ => ?_) (fun h => absurd ((iN_le (a := 72) (by decide) (by omega)).mpr (by omega)) h)
    have e : k = 72 := by omega
    rw [e] at hc
    exact z_C.ret rfl rfl (hq v' hc)
  | succ d ih =>
    intro k v' hk hc
    obtain ⟨c1, c2, c3⟩ := hc
    obtain ⟨ia, na⟩ := p_ix (k := a) (f := k) ha (by omega)
    obtain ⟨ib, nb⟩ := p_ix (k := b) (f := k) hb (by omega)
    have e : iN k + 1 = iN (k + 1) := iN_add k 1
    refine z_C.go 3 rfl ?_
    refine z_C.if (fun h => absurd ((iN_le (a := 72) (by decide) (by omega)).mp h) (by omega)) (fun _ => ?_)
    refine z_C.go 14 rfl ?_
    refine z_C.go1 rfl (if_pos ⟨rfl, ia⟩) ?_
    refine z_C.go1 rfl (if_pos ⟨rfl, ib⟩) ?_
    refine z_C.go 2 rfl ?_
    have hr : v'.1 3 0 (72 * a + k) = v.1 3 0 (72 * a + k) := c2 3 0 _ (fun h => by omega)
    have k9 := ih (k + 1) (z_si v' 3 0 (72 * b + k) (v'.1 3 0 (72 * a + k))) (by omega) ⟨c1, fun g i q hg => (if_neg (fun h => hg ⟨h.1, h.2.1, by omega, by omega⟩)).trans (c2 g i q (fun h => hg ⟨h.1, h.2.1, h.2.2.1, by omega⟩)), fun f hf => by
      by_cases hz : f = k
      · rw [hz]
        exact (if_pos ⟨rfl, rfl, rfl⟩).trans hr
      · exact (if_neg (fun h => by omega)).trans (c3 f (by omega))⟩
    rw [← e, ← na, ← nb] at k9
    exact k9
theorem m_copyA {a b : Nat} (ha : a ≤ 25) (hb : b ≤ 25) {v : z_W} {Q : z_W → Option z_V → Prop} (hq : ∀ v1 v', cpA a b 10 v v1 → cpB a b 72 v1 v' → Q v' none) : ∀ (d k : Nat) (v' : z_W), k + d = 10 → cpA a b k v v' →
    mRun kX_copy (2, [some (zR 0 0), some (zI (iN a)), some (zI (iN b)), some (zI (iN k))], [], v') Q := by
  intro d
  induction d with
  | zero =>
    intro k v' hk hc
    refine z_C.go 3 rfl ?_
    refine z_C.if (fun _ => ?_) (fun h => absurd ((iN_le (a := 10) (by decide) (by omega)).mpr (by omega)) h)
    have e : k = 10 := by omega
    rw [e] at hc
    refine z_C.go 2 rfl ?_
    exact m_copyB ha hb (v := v') (fun v2 h2 => hq v' v2 hc h2) 72 0 v' (by omega) ⟨rfl, fun _ _ _ _ => rfl, fun f hf => by omega⟩
  | succ d ih =>
    intro k v' hk hc
    obtain ⟨c1, c2, c3⟩ := hc
    obtain ⟨-, ia, na⟩ := j_ix (k := a) (f := k) ha (by omega)
    obtain ⟨-, ib, nb⟩ := j_ix (k := b) (f := k) hb (by omega)
    have e : iN k + 1 = iN (k + 1) := iN_add k 1
    refine z_C.go 3 rfl ?_
    refine z_C.if (fun h => absurd ((iN_le (a := 10) (by decide) (by omega)).mp h) (by omega)) (fun _ => ?_)
    refine z_C.go 14 rfl ?_
    refine z_C.go1 rfl (if_pos ⟨rfl, ia⟩) ?_
    refine z_C.go1 rfl (if_pos ⟨rfl, ib⟩) ?_
    refine z_C.go 2 rfl ?_
    have hr : v'.1 2 0 (10 * a + k) = v.1 2 0 (10 * a + k) := c2 2 0 _ (fun h => by omega)
    have k9 := ih (k + 1) (z_si v' 2 0 (10 * b + k) (v'.1 2 0 (10 * a + k))) (by omega) ⟨c1, fun g i q hg => (if_neg (fun h => hg ⟨h.1, h.2.1, by omega, by omega⟩)).trans (c2 g i q (fun h => hg ⟨h.1, h.2.1, h.2.2.1, by omega⟩)), fun f hf => by
      by_cases hz : f = k
      · rw [hz]
        exact (if_pos ⟨rfl, rfl, rfl⟩).trans hr
      · exact (if_neg (fun h => by omega)).trans (c3 f (by omega))⟩
    rw [← e, ← na, ← nb] at k9
    exact k9
theorem m_copy {a b : Nat} (ha : a ≤ 25) (hb : b ≤ 25) {v : z_W} {Q : z_W → Option z_V → Prop} (hq : ∀ v1 v', cpA a b 10 v v1 → cpB a b 72 v1 v' → Q v' none) : mRun kX_copy (0, [some (zR 0 0), some (zI (iN a)), some (zI (iN b)), none], [], v) Q := by
  refine z_C.go 2 rfl ?_
  exact m_copyA ha hb hq 10 0 v (by omega) ⟨rfl, fun _ _ _ _ => rfl, fun f hf => by omega⟩
