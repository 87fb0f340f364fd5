/-! which jobs are left when the ended ones are forgotten -/
/-- of the first i jobs: how many live, and which is the k-th of them -/
def fgt (A : Nat → Nat → Nat) : Nat → Nat × (Nat → Nat)
  | 0 => (0, fun k => k)
  | i + 1 => if A i 2 = 7 ∨ A i 2 = 9 then fgt A i else ((fgt A i).1 + 1, fun k => if k = (fgt A i).1 then i else (fgt A i).2 k)
theorem fgt_end {A : Nat → Nat → Nat} {i : Nat} (h : A i 2 = 7 ∨ A i 2 = 9) : fgt A (i + 1) = fgt A i := by
  show (if A i 2 = 7 ∨ A i 2 = 9 then fgt A i else _) = _
  rw [if_pos h]
theorem fgt_live {A : Nat → Nat → Nat} {i : Nat} (h : ¬ (A i 2 = 7 ∨ A i 2 = 9)) : fgt A (i + 1) = ((fgt A i).1 + 1, fun k => if k = (fgt A i).1 then i else (fgt A i).2 k) := by
  show (if A i 2 = 7 ∨ A i 2 = 9 then fgt A i else _) = _
  rw [if_neg h]
theorem fgt_le (A : Nat → Nat → Nat) : ∀ i, (fgt A i).1 ≤ i := by
  intro i
  induction i with
  | zero => exact Nat.le_refl _
  | succ i ih =>
    by_cases h : A i 2 = 7 ∨ A i 2 = 9
    · rw [fgt_end h]
      omega
    · rw [fgt_live h]
      show (fgt A i).1 + 1 ≤ i + 1
      omega
theorem fgt_in (A : Nat → Nat → Nat) : ∀ i k, k < (fgt A i).1 → (fgt A i).2 k < i ∧ ¬ (A ((fgt A i).2 k) 2 = 7 ∨ A ((fgt A i).2 k) 2 = 9) := by
  intro i
  induction i with
  | zero => intro k h; exact absurd h (Nat.not_lt_zero _)
  | succ i ih =>
    intro k hk
    by_cases h : A i 2 = 7 ∨ A i 2 = 9
    · rw [fgt_end h] at hk ⊢
      have := ih k hk
      exact ⟨by omega, this.2⟩
    · rw [fgt_live h] at hk ⊢
      have hk : k < (fgt A i).1 + 1 := hk
      show (if k = (fgt A i).1 then i else (fgt A i).2 k) < i + 1 ∧ ¬ (A (if k = (fgt A i).1 then i else (fgt A i).2 k) 2 = 7 ∨ A (if k = (fgt A i).1 then i else (fgt A i).2 k) 2 = 9)
      by_cases e : k = (fgt A i).1
      · rw [if_pos e]
        exact ⟨by omega, h⟩
      · rw [if_neg e]
        have := ih k (by omega)
        exact ⟨by omega, this.2⟩
theorem fgt_mono (A : Nat → Nat → Nat) : ∀ i k l, k < l → l < (fgt A i).1 → (fgt A i).2 k < (fgt A i).2 l := by
  intro i
  induction i with
  | zero => intro k l _ h; exact absurd h (Nat.not_lt_zero _)
  | succ i ih =>
    intro k l hkl hl
    by_cases h : A i 2 = 7 ∨ A i 2 = 9
    · rw [fgt_end h] at hl ⊢
      exact ih k l hkl hl
    · rw [fgt_live h] at hl ⊢
      have hl : l < (fgt A i).1 + 1 := hl
      show (if k = (fgt A i).1 then i else (fgt A i).2 k) < (if l = (fgt A i).1 then i else (fgt A i).2 l)
      rw [if_neg (by omega)]
      by_cases e : l = (fgt A i).1
      · rw [if_pos e]
        exact (fgt_in A i k (by omega)).1
      · rw [if_neg e]
        exact ih k l hkl (by omega)
/-- the jobs' table behind it -/
def fgA (A : Nat → Nat → Nat) (n k f : Nat) : Nat := A ((fgt A n).2 k) f
theorem fgt_blk (A : Nat → Nat → Nat) : ∀ i, nBlk (fgA A i) (fgt A i).1 = nLive A i := by
  intro i
  induction i with
  | zero => rfl
  | succ i ih =>
    by_cases h : A i 2 = 7 ∨ A i 2 = 9
    · have e : nLive A (i + 1) = nLive A i := by
        show nLive A i + (if A i 2 = 7 ∨ A i 2 = 9 then 0 else 1 + A i 8) = _
        rw [if_pos h]
        rfl
      rw [e, ← ih]
      unfold fgA
      rw [fgt_end h]
    · have e : nLive A (i + 1) = nLive A i + (1 + A i 8) := by
        show nLive A i + (if A i 2 = 7 ∨ A i 2 = 9 then 0 else 1 + A i 8) = _
        rw [if_neg h]
      have e1 : (fgt A (i + 1)).1 = (fgt A i).1 + 1 := by rw [fgt_live h]
      rw [e, e1]
      show nBlk (fgA A (i + 1)) (fgt A i).1 + (1 + fgA A (i + 1) (fgt A i).1 8) = _
      have e2 : fgA A (i + 1) (fgt A i).1 8 = A i 8 := by
        unfold fgA
        rw [fgt_live h]
        show A (if (fgt A i).1 = (fgt A i).1 then i else _) 8 = _
        rw [if_pos rfl]
      rw [e2, nBlk_congr (A := fgA A (i + 1)) (B := fgA A i) (fgt A i).1 (fun k hk => by
        unfold fgA
        rw [fgt_live h]
        show A (if k = (fgt A i).1 then i else (fgt A i).2 k) 8 = _
        rw [if_neg (by omega)]), ih]
/-- none of those that are left has ended -/
theorem nLive_all {A : Nat → Nat → Nat} : ∀ n, (∀ k, k < n → ¬ (A k 2 = 7 ∨ A k 2 = 9)) → nLive A n = nBlk A n := by
  intro n
  induction n with
  | zero => intro _; rfl
  | succ n ih =>
    intro h
    show nLive A n + (if A n 2 = 7 ∨ A n 2 = 9 then 0 else 1 + A n 8) = nBlk A n + (1 + A n 8)
    rw [if_neg (h n (by omega)), ih (fun k hk => h k (by omega))]
