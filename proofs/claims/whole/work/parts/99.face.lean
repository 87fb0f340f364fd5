/-! the reference writes the rows of a side -/
section MFACE
variable {W H : Nat} {f : Nat → Int32} {Q : z_W → Option z_V → Prop} {k s back book sort : Int32} {x0 x1 x2 x3 : Option z_V}
theorem m_f208 {r L : Nat} {v : z_W} (hW : W ≤ 8) (hH : H ≤ 6) (hs : mS f v) (hL : v.1 0 0 25 = iN L) (hc : L + 1 + 2 * W ≤ 300)
    (hq : ∀ n, n = eqRN f W r (H - r - 1) 1 → mRun kX_face (198, [some (zR 0 0), some (zI k), some (zI s), some (zI back), some (zI (iN W)), some (zI (iN H)), some (zI book), some (zI sort), some (zI (iN (r + n))), some (zI (iN n)), x0, x1, x2, x3], [], mApp 6 25 (iN (n - 1) :: rowE f W W (r * W)) v) Q) :
    ∀ (d n : Nat), 1 ≤ n → r + n + d = H → eqRN f W r d n = eqRN f W r (H - r - 1) 1 → mRun kX_face (208, [some (zR 0 0), some (zI k), some (zI s), some (zI back), some (zI (iN W)), some (zI (iN H)), some (zI book), some (zI sort), some (zI (iN r)), some (zI (iN n)), x0, x1, x2, x3], [], v) Q := by
  have fin : ∀ n, 1 ≤ n → r + n ≤ H → n = eqRN f W r (H - r - 1) 1 → mRun kX_face (240, [some (zR 0 0), some (zI k), some (zI s), some (zI back), some (zI (iN W)), some (zI (iN H)), some (zI book), some (zI sort), some (zI (iN r)), some (zI (iN n)), x0, x1, x2, x3], [], v) Q := by
    intro n h1 h2 h3
    have e1 : iN n - 1 = iN (n - 1) := iN_sub (b := 1) h1
    refine z_C.go 4 rfl ?_
    rw [e1]
    refine z_C.call rfl rfl (m_send (L := L) (Q := fun w' r' => w' = mAp1 6 25 (iN (n - 1)) v ∧ r' = none) hL (by omega) ⟨rfl, rfl⟩) (fun w' r' h => ?_)
    obtain ⟨rfl, rfl⟩ := h
    refine z_C.go 3 rfl ?_
    refine z_C.call rfl rfl (m_row (W := W) (r := r) (L := L + 1) (Q := fun w' r' => w' = mApp 6 25 (rowE f W W (r * W)) (mAp1 6 25 (iN (n - 1)) v) ∧ r' = none) hW (by omega) hs.ap (mAp1_len hL) (by omega) ⟨rfl, rfl⟩) (fun w' r' h => ?_)
    obtain ⟨rfl, rfl⟩ := h
    refine z_C.go 5 rfl ?_
    have k9 := hq n h3
    rw [← iN_add r n] at k9
    exact k9
  intro d
  induction d with
  | zero =>
    intro n hn1 hn hu
    have e1 : iN r + iN n = iN (r + n) := iN_add r n
    refine z_C.go 5 rfl ?_
    refine z_C.if (fun h => fin n hn1 (by omega) hu) (fun h => absurd (show iN H ≤ iN r + iN n by rw [e1]; exact (iN_le (by omega) (by omega)).mpr (by omega)) h)
  | succ d ih =>
    intro n hn1 hn hu
    have e1 : iN r + iN n = iN (r + n) := iN_add r n
    have hu : (if alkF f (r * W) ((r + n) * W) W 0 = true then eqRN f W r d (n + 1) else n) = eqRN f W r (H - r - 1) 1 := hu
    refine z_C.go 5 rfl ?_
    refine z_C.if (fun h => ?_) (fun h => ?_)
    · have h : iN H ≤ iN r + iN n := h
      rw [e1, iN_le (by omega) (by omega)] at h
      omega
    refine z_C.go 6 rfl ?_
    rw [e1]
    refine z_C.call rfl rfl (m_alk (W := W) (y := r) (z := r + n) (Q := fun w' r' => w' = v ∧ r' = some (zI (if alkF f (r * W) ((r + n) * W) W 0 = true then 1 else 0))) hs hW (by omega) (by omega) ⟨rfl, rfl⟩) (fun w' r' h => ?_)
    obtain ⟨rfl, rfl⟩ := h
    by_cases ha : alkF f (r * W) ((r + n) * W) W 0 = true
    · rw [if_pos ha] at hu ⊢
      refine z_C.go 3 rfl ?_
      have k9 := ih (n + 1) (by omega) (by omega) hu
      rw [← iN_add n 1] at k9
      exact k9
    · rw [if_neg ha] at hu ⊢
      refine z_C.go 1 rfl ?_
      exact fin n hn1 (by omega) hu
theorem m_f198 (hW : W ≤ 8) (hH : H ≤ 6) : ∀ (u m r L : Nat) (v : z_W) (x : Option z_V), r + m = H → m ≤ u → mS f v → v.1 0 0 25 = iN L → L + m * (2 * W + 1) ≤ 300 → Q (mApp 6 25 (sideE f W u m r) v) none →
    mRun kX_face (198, [some (zR 0 0), some (zI k), some (zI s), some (zI back), some (zI (iN W)), some (zI (iN H)), some (zI book), some (zI sort), some (zI (iN r)), x, x0, x1, x2, x3], [], v) Q := by
  intro u
  induction u with
  | zero =>
    intro m r L v x hr hm hs hL hc hq
    refine z_C.go 3 rfl ?_
    refine z_C.if (fun h => ?_) (fun h => absurd ((iN_le (by omega) (by omega)).mpr (by omega)) h)
    exact z_C.ret rfl rfl hq
  | succ u ih =>
    intro m r L v x hr hm hs hL hc hq
    unfold sideE at hq
    refine z_C.go 3 rfl ?_
    refine z_C.if (fun h => ?_) (fun h => ?_)
    · have h := (iN_le (by omega) (by omega)).mp h
      rw [if_pos (show m = 0 by omega)] at hq
      exact z_C.ret rfl rfl hq
    · have h0 : ¬ m = 0 := fun h9 => h ((iN_le (by omega) (by omega)).mpr (by omega))
      rw [if_neg h0] at hq
      have em : H - r - 1 = m - 1 := by omega
      have b1 := eqRN_b f W r (m - 1) 1
      have hm1 : m * (2 * W + 1) = (m - 1) * (2 * W + 1) + (2 * W + 1) := by
        obtain ⟨k, rfl⟩ : ∃ k, m = k + 1 := ⟨m - 1, by omega⟩
        rw [Nat.add_sub_cancel, Nat.add_mul, Nat.one_mul]
      refine z_C.go 2 rfl ?_
      refine m_f208 (r := r) hW hH hs hL (by omega) (fun n hn => ?_) (H - r - 1) 1 (Nat.le_refl _) (by omega) rfl
      rw [em] at hn
      rw [← hn] at b1 hq
      have hrl := rowE_len f W W (r * W)
      have hmn : (m - n) * (2 * W + 1) ≤ (m - 1) * (2 * W + 1) := Nat.mul_le_mul_right _ (by omega)
      have hl : (iN (n - 1) :: rowE f W W (r * W)).length = (rowE f W W (r * W)).length + 1 := rfl
      refine ih (m - n) (r + n) (L + ((rowE f W W (r * W)).length + 1)) _ _ (by omega) (by omega) (mS.app _ _ hs) (by rw [← hl]; exact mApp_len _ L v hL) (by omega) ?_
      rw [← mApp_app]
      exact hq
end MFACE
