/-! pages: what the data of a PRINT say -/
def runN (h : Nat) : Nat := if h < 128 then h + 1 else 257 - h
def rowOK (D : Nat → Nat) (len p c : Nat) : Prop := p < len ∧ ¬ D p = 128 ∧ c + runN (D p) ≤ 4 ∧ (D p < 128 → p + 2 ≤ len) ∧ (128 < D p → p + 1 + runN (D p) ≤ len)
def rowN (D : Nat → Nat) (p : Nat) : Nat := if D p < 128 then p + 2 else p + 1 + runN (D p)
def rowS (D : Nat → Nat) (p c : Nat) (R : Nat → Nat) (x : Nat) : Nat := if c ≤ x ∧ x < c + runN (D p) then (if D p < 128 then D (p + 1) else D (p + 1 + (x - c))) else R x
/-- a row of pixels from p on, c of them there: nothing, or the row and where it ends -/
def rowR (D : Nat → Nat) (len : Nat) : Nat → Nat → Nat → (Nat → Nat) → Option ((Nat → Nat) × Nat) → Prop
  | 0, p, c, R, o => c = 4 ∧ o = some (R, p)
  | f + 1, p, c, R, o => (c = 4 ∧ o = some (R, p)) ∨ (c < 4 ∧ rowOK D len p c ∧ rowR D len f (rowN D p) (c + runN (D p)) (rowS D p c R) o) ∨ (c < 4 ∧ ¬ rowOK D len p c ∧ o = none)
theorem runN_1 {h : Nat} (hh : h < 256) : 1 ≤ runN h := by
  unfold runN
  split <;> omega
theorem rowR_ex {D : Nat → Nat} {len : Nat} (hb : ∀ k, k < len → D k < 256) : ∀ f p c R, c ≤ 4 → 4 ≤ f + c → ∃ o, rowR D len f p c R o := by
  intro f
  induction f with
  | zero => intro p c R h1 h2; exact ⟨_, by omega, rfl⟩
  | succ f ih =>
    intro p c R h1 h2
    by_cases h4 : c = 4
    · exact ⟨_, Or.inl ⟨h4, rfl⟩⟩
    · by_cases hk : rowOK D len p c
      · have := runN_1 (hb p hk.1)
        obtain ⟨o, ho⟩ := ih (rowN D p) (c + runN (D p)) (rowS D p c R) hk.2.2.1 (by omega)
        exact ⟨o, Or.inr (Or.inl ⟨by omega, hk, ho⟩)⟩
      · exact ⟨none, Or.inr (Or.inr ⟨by omega, hk, rfl⟩)⟩
def putR (X : Nat → Nat) (t b : Nat) (R : Nat → Nat) (q : Nat) : Nat := if 4 * t ≤ q ∧ q < 4 * b then R (q % 4) else X q
/-- a page of three rows -/
def rasR (D : Nat → Nat) (len : Nat) : Nat → Nat → Nat → (Nat → Nat) → Option ((Nat → Nat) × Nat) → Prop
  | 0, p, t, X, o => t = 3 ∧ o = some (X, p)
  | f + 1, p, t, X, o => (t = 3 ∧ o = some (X, p)) ∨ (t < 3 ∧ ¬ (p < len ∧ t + D p + 1 ≤ 3) ∧ o = none) ∨ (t < 3 ∧ (p < len ∧ t + D p + 1 ≤ 3) ∧ ∃ o1, rowR D len 4 (p + 1) 0 (fun _ => 0) o1 ∧ ((o1 = none ∧ o = none) ∨ ∃ R p1, o1 = some (R, p1) ∧ rasR D len f p1 (t + D p + 1) (putR X t (t + D p + 1) R) o))
theorem rasR_ex {D : Nat → Nat} {len : Nat} (hb : ∀ k, k < len → D k < 256) : ∀ f p t X, t ≤ 3 → 3 ≤ f + t → ∃ o, rasR D len f p t X o := by
  intro f
  induction f with
  | zero => intro p t X h1 h2; exact ⟨_, by omega, rfl⟩
  | succ f ih =>
    intro p t X h1 h2
    by_cases h3 : t = 3
    · exact ⟨_, Or.inl ⟨h3, rfl⟩⟩
    · by_cases hk : p < len ∧ t + D p + 1 ≤ 3
      · obtain ⟨o1, ho1⟩ := rowR_ex hb 4 (p + 1) 0 (fun _ => 0) (by omega) (by omega)
        cases o1 with
        | none => exact ⟨none, Or.inr (Or.inr ⟨by omega, hk, none, ho1, Or.inl ⟨rfl, rfl⟩⟩)⟩
        | some x =>
          obtain ⟨R, p1⟩ := x
          obtain ⟨o, ho⟩ := ih p1 (t + D p + 1) (putR X t (t + D p + 1) R) hk.2 (by omega)
          exact ⟨o, Or.inr (Or.inr ⟨by omega, hk, some (R, p1), ho1, Or.inr ⟨R, p1, rfl, ho⟩⟩)⟩
      · exact ⟨none, Or.inr (Or.inl ⟨by omega, hk, rfl⟩)⟩
def putP (Y : Nat → Nat) (n : Nat) (X : Nat → Nat) (q : Nat) : Nat := if n < 6 ∧ 12 * n ≤ q ∧ q < 12 * n + 12 then X (q - 12 * n) else Y q
/-- all pages -/
def pgsR (D : Nat → Nat) (len : Nat) : Nat → Nat → Nat → (Nat → Nat) → Option (Nat × (Nat → Nat)) → Prop
  | 0, p, n, Y, o => len ≤ p ∧ o = some (n, Y)
  | f + 1, p, n, Y, o => (len ≤ p ∧ o = some (n, Y)) ∨ (p < len ∧ ¬ D p = 80 ∧ o = none) ∨ (p < len ∧ D p = 80 ∧ ∃ o1, rasR D len 3 (p + 1) 0 (fun _ => 0) o1 ∧ ((o1 = none ∧ o = none) ∨ ∃ X p1, o1 = some (X, p1) ∧ pgsR D len f p1 (n + 1) (putP Y n X) o))
theorem rowR_ge {D : Nat → Nat} {len : Nat} : ∀ f p c R R' p', rowR D len f p c R (some (R', p')) → p ≤ p' ∧ (c ≤ 4 → p ≤ len → p' ≤ len) := by
  intro f
  induction f with
  | zero => intro p c R R' p' h; cases h.2; exact ⟨Nat.le_refl _, fun _ h => h⟩
  | succ f ih =>
    intro p c R R' p' h
    rcases h with ⟨-, h⟩ | ⟨-, hk, h⟩ | ⟨-, -, h⟩
    · cases h; exact ⟨Nat.le_refl _, fun _ h => h⟩
    · obtain ⟨a, b⟩ := ih _ _ _ _ _ h
      have hN : p ≤ rowN D p := by unfold rowN; split <;> omega
      refine ⟨by omega, fun _ hp => b hk.2.2.1 ?_⟩
      unfold rowN
      split
      · exact hk.2.2.2.1 ‹_›
      · exact hk.2.2.2.2 (by have := hk.2.1; omega)
    · cases h
theorem rasR_ge {D : Nat → Nat} {len : Nat} : ∀ f p t X X' p', rasR D len f p t X (some (X', p')) → p ≤ p' ∧ (p ≤ len → p' ≤ len) := by
  intro f
  induction f with
  | zero => intro p t X X' p' h; cases h.2; exact ⟨Nat.le_refl _, fun h => h⟩
  | succ f ih =>
    intro p t X X' p' h
    rcases h with ⟨-, h⟩ | ⟨-, -, h⟩ | ⟨-, hk, o1, h1, h2⟩
    · cases h; exact ⟨Nat.le_refl _, fun h => h⟩
    · cases h
    · rcases h2 with ⟨-, h⟩ | ⟨R, p1, e, h⟩
      · cases h
      · subst e
        obtain ⟨a, b⟩ := rowR_ge _ _ _ _ _ _ h1
        obtain ⟨c, d⟩ := ih _ _ _ _ _ h
        exact ⟨by omega, fun hp => d (b (by decide) (by omega))⟩
theorem pgsR_ex {D : Nat → Nat} {len : Nat} (hb : ∀ k, k < len → D k < 256) : ∀ f p n Y, len ≤ f + p → ∃ o, pgsR D len f p n Y o := by
  intro f
  induction f with
  | zero => intro p n Y h; exact ⟨_, by omega, rfl⟩
  | succ f ih =>
    intro p n Y h
    by_cases hp : len ≤ p
    · exact ⟨_, Or.inl ⟨hp, rfl⟩⟩
    · by_cases h80 : D p = 80
      · obtain ⟨o1, ho1⟩ := rasR_ex hb 3 (p + 1) 0 (fun _ => 0) (by omega) (by omega)
        cases o1 with
        | none => exact ⟨none, Or.inr (Or.inr ⟨by omega, h80, none, ho1, Or.inl ⟨rfl, rfl⟩⟩)⟩
        | some x =>
          obtain ⟨X, p1⟩ := x
          have := (rasR_ge _ _ _ _ _ _ ho1).1
          obtain ⟨o, ho⟩ := ih p1 (n + 1) (putP Y n X) (by omega)
          exact ⟨o, Or.inr (Or.inr ⟨by omega, h80, some (X, p1), ho1, Or.inr ⟨X, p1, rfl, ho⟩⟩)⟩
      · exact ⟨none, Or.inr (Or.inl ⟨by omega, h80, rfl⟩)⟩
