/-! the class's two looks and the reference's one find the same job -/
theorem fndF_none {num : Nat → Int32} {x : Int32} : ∀ (d i : Nat), fndF num x d i = none → ∀ j, i ≤ j → j < i + d → ¬ num j = x := by
  intro d
  induction d with
  | zero => intro i _ j h1 h2; omega
  | succ d ih =>
    intro i h j h1 h2
    unfold fndF at h
    split at h
    · cases h
    · rename_i hn
      by_cases e : j = i
      · rw [e]
        exact hn
      · exact ih (i + 1) h j (by omega) (by omega)
theorem chF_congr {m m' : Nat → Bool} {A : Nat → Nat → Nat} : ∀ n, (∀ i, i < n → m i = m' i) → chF m A n = chF m' A n := by
  intro n
  induction n with
  | zero => intro _; rfl
  | succ n ih =>
    intro h
    unfold chF
    rw [ih (fun i hi => h i (by omega)), h n (by omega)]
theorem nBef_5 {a b : Nat → Nat} (ha : a 2 = 5) (hb : ¬ b 2 = 5) : nBef a b = true ∧ nBef b a = false := by
  unfold nBef
  rw [if_pos ha, if_neg hb, if_neg hb, if_pos ha]
  exact ⟨rfl, rfl⟩
theorem ch_proc {A : Nat → Nat → Nat} {n k : Nat} (hk : k < n) (h5 : A k 2 = 5) (h1 : ∀ l, l < n → A l 2 = 5 → l = k) : ∀ i, i ≤ n → k < i → chF (fun i => decide (A i 2 = 5 ∨ A i 2 = 3)) A i = some k := by
  intro i
  induction i with
  | zero => intro _ h; omega
  | succ i ih =>
    intro hi hki
    by_cases e : i = k
    · subst e
      have hm : (fun i => decide (A i 2 = 5 ∨ A i 2 = 3)) i = true := by simp [h5]
      cases hc : chF (fun i => decide (A i 2 = 5 ∨ A i 2 = 3)) A i with
      | none => exact chF_new hc hm
      | some f =>
        have hf := (chF_lt i f hc).1
        exact chF_bef hc hm (nBef_5 h5 (fun h => by have := h1 f (by omega) h; omega)).1
    · have hc := ih (by omega) (by omega)
      refine chF_old hc (fun h => ?_)
      have := (nBef_5 h5 (fun h => e (h1 i (by omega) h))).2
      rw [this] at h
      cases h.2
theorem ch_pend {A : Nat → Nat → Nat} {n : Nat} (h : ∀ l, l < n → ¬ A l 2 = 5) : chF (fun i => decide (A i 2 = 5 ∨ A i 2 = 3)) A n = chF (fun i => decide (A i 2 = 3)) A n :=
  chF_congr n (fun i hi => by simp [h i hi])
