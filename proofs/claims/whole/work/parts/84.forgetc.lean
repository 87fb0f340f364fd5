/-! the class forgets the ended jobs -/
def fcI (A : Nat → Nat → Nat) (i : Nat) (w w' : z_W) : Prop :=
  w'.1 = w.1 ∧ w'.2.1 = w.2.1 ∧ (∀ k, k < (fgt A i).1 → w'.2.2 13 0 k = w.2.2 13 0 ((fgt A i).2 k)) ∧ (∀ k, i ≤ k → w'.2.2 13 0 k = w.2.2 13 0 k) ∧ (∀ k, k < 20 → w'.2.2 13 0 k < 20) ∧ ∀ k l, k < 20 → l < 20 → w'.2.2 13 0 k = w'.2.2 13 0 l → k = l
def swp (c i k : Nat) : Nat := if k = c then i else if k = i then c else k
theorem swp_lt {c i k : Nat} (hc : c < 20) (hi : i < 20) (hk : k < 20) : swp c i k < 20 := by
  unfold swp
  split
  · exact hi
  · split
    · exact hc
    · exact hk
theorem swp_inj {c i k l : Nat} (h : swp c i k = swp c i l) : k = l := by
  unfold swp at h
  split at h <;> split at h <;> (try split at h) <;> (try split at h) <;> omega
theorem sr_swp {w : z_W} {c i k : Nat} : (z_sr (z_sr w 13 0 i (w.2.2 13 0 c)) 13 0 c (w.2.2 13 0 i)).2.2 13 0 k = w.2.2 13 0 (swp c i k) := by
  show (if 13 = 13 ∧ 0 = 0 ∧ k = c then w.2.2 13 0 i else if 13 = 13 ∧ 0 = 0 ∧ k = i then w.2.2 13 0 c else w.2.2 13 0 k) = _
  unfold swp
  by_cases h1 : k = c
  · rw [if_pos ⟨rfl, rfl, h1⟩, if_pos h1]
  · rw [if_neg (fun h => h1 h.2.2), if_neg h1]
    by_cases h2 : k = i
    · rw [if_pos ⟨rfl, rfl, h2⟩, if_pos h2]
    · rw [if_neg (fun h => h2 h.2.2), if_neg h2]
theorem e_forget_loop {n : Nat} {A : Nat → Nat → Nat} {w : z_W} {Q : z_W → Option z_V → Prop} (hc : cLv n A w) (hq : ∀ w', fcI A n w w' → Q (z_si w' 12 0 2 (iN (fgt A n).1)) none) : ∀ (d i : Nat) (w' : z_W) (x : Option z_V), i + d = n → fcI A i w w' →
    cRun kS_forgetEnded (4, [some (zR 12 0), some (zI (iN (fgt A i).1)), some (zI (iN i)), x], [], w') Q := by
  obtain ⟨⟨hn2, hn⟩, hJ⟩ := hc
  intro d
  induction d with
  | zero =>
    intro i w' x hi hI
    have hn' : w'.1 12 0 2 = iN n := by rw [hI.1]; exact hn
    refine z_C.go 4 rfl ?_
    refine z_C.if (fun h => ?_) (fun h => ?_)
    · refine z_C.go 3 rfl ?_
      have e : i = n := by omega
      rw [e] at hI ⊢
      exact z_C.ret rfl rfl (hq w' hI)
    · have h : ¬ w'.1 12 0 2 ≤ iN i := h
      rw [hn', iN_le (by omega) (by omega)] at h
      omega
  | succ d ih =>
    intro i w' x hi hI
    have hI' := hI
    obtain ⟨f1, f2, f3, f4, f5, f6⟩ := hI'
    have hn' : w'.1 12 0 2 = iN n := by rw [f1]; exact hn
    have hin : z_in (iN i) 20 = true := iN_in (by omega) (by omega)
    have hnat : (iN i).toNatClampNeg = i := iN_nat (by omega)
    have e : iN i + 1 = iN (i + 1) := iN_add i 1
    have hcl := fgt_le A i
    have hinc : z_in (iN (fgt A i).1) 20 = true := iN_in (by omega) (by omega)
    have hnatc : (iN (fgt A i).1).toNatClampNeg = (fgt A i).1 := iN_nat (by omega)
    obtain ⟨s2, s8, st, p6⟩ := hJ i (by omega)
    have s2' : w'.1 9 (w'.2.2 13 0 i) 2 = iN (A i 2) := by rw [f1, f4 i (Nat.le_refl _)]; exact s2
    refine z_C.go 4 rfl ?_
    refine z_C.if (fun h => ?_) (fun h => ?_)
    · have h : w'.1 12 0 2 ≤ iN i := h
      rw [hn', iN_le (by omega) (by omega)] at h
      omega
    refine z_C.go 3 rfl ?_
    refine z_C.go1 rfl (if_pos ⟨rfl, hin⟩) ?_
    rw [hnat]
    refine z_C.go 2 rfl ?_
    by_cases he : nEnd (A i 2)
    · refine z_C.call rfl rfl (zC_up (C' := zC) (k_hasEnded (j := w'.2.2 13 0 i) (Q := fun w'' r => w'' = w' ∧ r = some (zI 1)) s2' st (fun _ => ⟨rfl, rfl⟩) (fun h => absurd he h))) (fun w'' r h => ?_)
      obtain ⟨rfl, rfl⟩ := h
      refine z_C.go 3 rfl ?_
      have k9 := ih (i + 1) w'' (some (zR 9 (w''.2.2 13 0 i))) (by omega) ⟨f1, f2, by rw [fgt_end he]; exact f3, fun k hk => f4 k (by omega), f5, f6⟩
      rw [fgt_end he, ← e] at k9
      exact k9
    · refine z_C.call rfl rfl (zC_up (C' := zC) (k_hasEnded (j := w'.2.2 13 0 i) (Q := fun w'' r => w'' = w' ∧ r = some (zI 0)) s2' st (fun h => absurd h he) (fun _ => ⟨rfl, rfl⟩))) (fun w'' r h => ?_)
      obtain ⟨rfl, rfl⟩ := h
      refine z_C.go 7 rfl ?_
      refine z_C.go1 rfl (if_pos ⟨rfl, hinc⟩) ?_
      refine z_C.go1 rfl (if_pos ⟨rfl, hin, rfl, rfl⟩) ?_
      refine z_C.go 4 rfl ?_
      refine z_C.go1 rfl (if_pos ⟨rfl, hinc, rfl, rfl⟩) ?_
      refine z_C.go 3 rfl ?_
      have k9 := ih (i + 1) (z_sr (z_sr w'' 13 0 i (w''.2.2 13 0 (fgt A i).1)) 13 0 (fgt A i).1 (w''.2.2 13 0 i)) (some (zR 9 (w''.2.2 13 0 i))) (by omega) (by
        refine ⟨f1, f2, fun k hk => ?_, fun k hk => ?_, fun k hk => ?_, fun k l hk hl h => ?_⟩
        · rw [fgt_live he] at hk ⊢
          have hk : k < (fgt A i).1 + 1 := hk
          rw [sr_swp]
          show _ = w.2.2 13 0 (if k = (fgt A i).1 then i else (fgt A i).2 k)
          unfold swp
          by_cases hz : k = (fgt A i).1
          · rw [if_pos hz, if_pos hz]
            exact f4 i (Nat.le_refl _)
          · rw [if_neg hz, if_neg (show ¬ k = i by omega), if_neg hz]
            exact f3 k (by omega)
        · rw [sr_swp]
          unfold swp
          rw [if_neg (by omega), if_neg (by omega)]
          exact f4 k (by omega)
        · rw [sr_swp]
          exact f5 _ (swp_lt (by omega) (by omega) hk)
        · rw [sr_swp, sr_swp] at h
          exact swp_inj (f6 _ _ (swp_lt (by omega) (by omega) hk) (swp_lt (by omega) (by omega) hl) h))
      have ec : iN (fgt A (i + 1)).1 = iN (fgt A i).1 + 1 := by
        rw [fgt_live he]
        exact (iN_add _ 1).symm
      rw [ec, ← e] at k9
      rw [hnat, hnatc]
      exact k9
theorem e_forget {n : Nat} {A : Nat → Nat → Nat} {w : z_W} {Q : z_W → Option z_V → Prop} (hc : cLv n A w) (h5 : ∀ k, k < 20 → w.2.2 13 0 k < 20) (h6 : ∀ k l, k < 20 → l < 20 → w.2.2 13 0 k = w.2.2 13 0 l → k = l) (hq : ∀ w', fcI A n w w' → Q (z_si w' 12 0 2 (iN (fgt A n).1)) none) : cRun kS_forgetEnded (0, [some (zR 12 0), none, none, none], [], w) Q := by
  refine z_C.go 4 rfl ?_
  exact e_forget_loop hc hq n 0 w none (by omega) ⟨rfl, rfl, fun k hk => absurd hk (Nat.not_lt_zero _), fun _ _ => rfl, h5, h6⟩
