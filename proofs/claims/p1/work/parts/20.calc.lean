/-! runs of the abstract machine: rules to reason with -/
section ZC
variable {S : z_S} {M : Nat → z_M} {C : Nat → Nat → Option z_I}
theorem z_mono1 : ∀ (n mi : Nat) (f : z_F) (x : z_W × Option z_V), z_run S M C n mi f = some x → z_run S M C (n + 1) mi f = some x := by
  intro n
  induction n with
  | zero => intro mi f x h; cases h
  | succ n ih =>
    intro mi f x h
    obtain ⟨pc, L, st, w⟩ := f
    rw [z_run] at h ⊢
    cases hC : C mi pc with
    | none => rw [hC] at h; cases h
    | some I =>
      rw [hC] at h
      dsimp only at h ⊢
      cases hs : z_step S M I pc L st w with
      | none => rw [hs] at h; cases h
      | some z =>
        rw [hs] at h
        rcases z with f1 | rv | ⟨mj, as, rest⟩
        · dsimp only at h ⊢
          exact ih mi f1 x h
        · exact h
        · dsimp only at h ⊢
          cases hr : z_run S M C n mj (0, z_entry (M mj).2.2.1 as, [], w) with
          | none => rw [hr] at h; cases h
          | some y =>
            rw [hr] at h
            rw [ih mj _ y hr]
            exact ih mi _ x h
theorem z_mono {n k mi : Nat} {f : z_F} {x : z_W × Option z_V} (hk : n ≤ k) (h : z_run S M C n mi f = some x) : z_run S M C k mi f = some x := by
  induction hk with
  | refl => exact h
  | step _ ih => exact z_mono1 _ _ _ _ ih
def z_C (S : z_S) (M : Nat → z_M) (C : Nat → Nat → Option z_I) (mi : Nat) (f : z_F) (Q : z_W → Option z_V → Prop) : Prop := ∃ (n : Nat) (w' : z_W) (r : Option z_V), z_run S M C n mi f = some (w', r) ∧ Q w' r
variable {mi pc a b : Nat} {I : z_I} {L : z_L} {st : List z_V} {w : z_W} {f f' : z_F} {Q Q' : z_W → Option z_V → Prop}
theorem z_C.imp (h : z_C S M C mi f Q) (hq : ∀ w r, Q w r → Q' w r) : z_C S M C mi f Q' := by
  obtain ⟨n, w', r, h1, h2⟩ := h
  exact ⟨n, w', r, h1, hq w' r h2⟩
theorem z_C.go1 (hC : C mi pc = some I) (hs : z_step S M I pc L st w = some (.inl f')) (k : z_C S M C mi f' Q) : z_C S M C mi (pc, L, st, w) Q := by
  obtain ⟨n, w', r, h1, h2⟩ := k
  refine ⟨n + 1, w', r, ?_, h2⟩
  rw [z_run, hC]
  dsimp only
  rw [hs]
  exact h1
theorem z_C.ret {rv : Option z_V} (hC : C mi pc = some I) (hs : z_step S M I pc L st w = some (.inr (.inl rv))) (k : Q w rv) : z_C S M C mi (pc, L, st, w) Q := by
  refine ⟨1, w, rv, ?_, k⟩
  rw [z_run, hC]
  dsimp only
  rw [hs]
theorem z_C.call {mj : Nat} {as rest : List z_V} (hC : C mi pc = some I) (hs : z_step S M I pc L st w = some (.inr (.inr (mj, as, rest)))) (hk : z_C S M C mj (0, z_entry (M mj).2.2.1 as, [], w) Q')
    (kk : ∀ w' r, Q' w' r → z_C S M C mi (pc + 3, L, r.toList ++ rest, w') Q) : z_C S M C mi (pc, L, st, w) Q := by
  obtain ⟨n1, w1, r1, h1, h2⟩ := hk
  obtain ⟨n2, w2, r2, h3, h4⟩ := kk w1 r1 h2
  refine ⟨max n1 n2 + 1, w2, r2, ?_, h4⟩
  rw [z_run, hC]
  dsimp only
  rw [hs]
  dsimp only
  rw [z_mono (Nat.le_max_left n1 n2) h1]
  exact z_mono (Nat.le_max_right n1 n2) h3
theorem z_C.if {c : Prop} [Decidable c] (h1 : c → z_C S M C mi (a, L, st, w) Q) (h2 : ¬ c → z_C S M C mi (b, L, st, w) Q) : z_C S M C mi (if c then a else b, L, st, w) Q := by
  split
  · exact h1 ‹_›
  · exact h2 ‹_›
def z_go (S : z_S) (M : Nat → z_M) (C : Nat → Nat → Option z_I) (mi : Nat) : Nat → z_F → Option z_F
  | 0, f => some f
  | k + 1, (pc, L, st, w) => match C mi pc with
    | none => none
    | some I => match z_step S M I pc L st w with
      | some (.inl f) => z_go S M C mi k f
      | _ => none
theorem z_C.go : ∀ (k : Nat) {f f' : z_F}, z_go S M C mi k f = some f' → z_C S M C mi f' Q → z_C S M C mi f Q
  | 0, f, f', h, k => by cases h; exact k
  | n + 1, (pc, L, st, w), f', h, k => by
    rw [z_go] at h
    cases hC : C mi pc with
    | none => rw [hC] at h; cases h
    | some I =>
      rw [hC] at h
      dsimp only at h
      cases hs : z_step S M I pc L st w with
      | none => rw [hs] at h; cases h
      | some z =>
        rw [hs] at h
        rcases z with f1 | rv | y
        · exact z_C.go1 hC hs (z_C.go n h k)
        · cases h
        · cases h
end ZC
